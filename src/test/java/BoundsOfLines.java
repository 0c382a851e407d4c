/** Boundary cases of promises 19 to 26: fields, lines. */
final class BoundsOfLines extends Bounds {
    /** Fields of 8 bits and of 1 bit, plain and signed, and one that stands apart. */
    private static final String FIELDS = "pa:wwwwwwww...x;pb:WWWWWWWW...X;pc:1..z.Z..z..Z;pd:wxyzWXYZ....;pe:............";

    // ---- 19: field

    @Says("BAD.")
    static void p19_badForm() {
        refused(BAD, x -> x.field(-1, 0, 0), x -> x.field(9, 0, 0), x -> x.field(12, 0, 0), x -> x.field(LEAST, 0, 0),
                x -> x.field(MOST, 0, 0));
    }

    @Says("BAD.")
    static void p19_badLetter() {
        refused(BAD, x -> x.field(0, -1, 0), x -> x.field(0, 8, 0), x -> x.field(0, LEAST, 0), x -> x.field(0, MOST, 0),
                x -> x.field(0, 'w', 0));
    }

    @Says("BAD.")
    static void p19_badWhat() {
        refused(BAD, x -> x.field(0, 0, -1), x -> x.field(0, 0, 3), x -> x.field(0, 0, LEAST), x -> x.field(0, 0, MOST));
    }

    @Says("BAD.")
    static void p19_badWhatOfAFieldThatThereIsnt() {
        refused(BAD, x -> x.field(0, 7, 3), x -> x.field(4, 0, -1));
    }

    @Says("NONE: there is none.")
    static void p19_noneThere() {
        asks(NONE, x -> x.field(0, 1, 0), x -> x.field(0, 4, 1), x -> x.field(0, 7, 2), x -> x.field(4, 0, 0),
                x -> x.field(1, 0, 0));
    }

    @Says("what 0 how many BITS it has, 1 its BITS (a set)")
    static void p19_oneBitAndEight() {
        DecoderForge x = with(FIELDS);
        due("w of eight", x.field(0, 0, 0), 8);
        due("its bits", x.field(0, 0, 1), 0xFF0);
        due("x of one", x.field(0, 1, 0), 1);
        due("its bit", x.field(0, 1, 1), 0x001);
        due("W of eight", x.field(1, 4, 0), 8);
        due("z apart", x.field(2, 3, 1), 0x108);
        due("Z apart", x.field(2, 7, 1), 0x041);
    }

    @Says("2 its place among the FIELDS of a LINE")
    static void p19_placesFirstToEighth() {
        DecoderForge x = with("pa:ZYXWzyxw....;pb:w...........;pc:xw.........x");
        for (int letter = 0; letter < 8; letter++) due("place of " + letter, x.field(0, letter, 2), 7 - letter);
        due("the only one", x.field(1, 0, 2), 0);
        due("by its highest bit", x.field(2, 1, 2), 0);
        due("behind it", x.field(2, 0, 2), 1);
    }

    // ---- 20: taken

    @Says("BAD: also no such FIELD.")
    static void p20_badForm() {
        refused(BAD, x -> x.taken(-1, 0, 0), x -> x.taken(9, 0, 0), x -> x.taken(LEAST, 0, 0), x -> x.taken(MOST, 0, 0));
    }

    @Says("BAD: also no such FIELD.")
    static void p20_badLetter() {
        refused(BAD, x -> x.taken(0, -1, 0), x -> x.taken(0, 8, 0), x -> x.taken(0, LEAST, 0), x -> x.taken(0, MOST, 0));
    }

    @Says("BAD: also no such FIELD.")
    static void p20_badNoSuchField() {
        refused(BAD, x -> x.taken(0, 1, 0), x -> x.taken(0, 4, 0), x -> x.taken(4, 0, 0x500), x -> x.taken(1, 0, 0));
    }

    @Says("BAD: also no such FIELD.")
    static void p20_badWord() {
        refused(BAD, x -> x.taken(0, 0, -1), x -> x.taken(0, 0, 4096), x -> x.taken(0, 0, LEAST), x -> x.taken(0, 0, MOST));
    }

    @Says("What stands in a FIELD is a number, of a signed one by two's complement.")
    static void p20_leastAndMost() {
        DecoderForge x = with(FIELDS);
        due("w 0", x.taken(0, 0, 0x00F), 0);
        due("w 255", x.taken(0, 0, 0xFF0), 255);
        due("w 128", x.taken(0, 0, 0x800), 128);
        due("x 0", x.taken(0, 1, 0xFFE), 0);
        due("x 1", x.taken(0, 1, 0x001), 1);
        due("W 0", x.taken(1, 4, 0x00F), 0);
        due("W 127", x.taken(1, 4, 0x7FF), 127);
        due("W -128", x.taken(1, 4, 0x80F), -128);
        due("W -1", x.taken(1, 4, 0xFF0), -1);
        due("X 0", x.taken(1, 5, 0xFFE), 0);
        due("X -1", x.taken(1, 5, 0x001), -1);
    }

    @Says("All BITS of one letter, the highest first, are one FIELD")
    static void p20_bitsApartTheHighestFirst() {
        DecoderForge x = with(FIELDS);
        due("z: bit 8 alone", x.taken(2, 3, 0x100), 2);
        due("z: bit 3 alone", x.taken(2, 3, 0x008), 1);
        due("z: both", x.taken(2, 3, 0xFFF), 3);
        due("Z: bit 6 alone", x.taken(2, 7, 0x040), -2);
        due("Z: bit 0 alone", x.taken(2, 7, 0x001), 1);
        due("Z: both", x.taken(2, 7, 0xFFF), -1);
    }

    @Says("What stands in a FIELD of a WORD (whether the FORM FITS it or not).")
    static void p20_ofAWordThatDoesntFit() {
        asks(15, x -> x.taken(0, 0, 0xFF0), x -> x.taken(2, 1, 0x3F0));
        asks(-128, x -> x.taken(1, 4, 0x080));
    }

    // ---- 21: laid

    @Says("BAD: also no such FIELD, v that can't stand in it.")
    static void p21_badForm() {
        refused(BAD, x -> x.laid(-1, 0, 0, 0), x -> x.laid(9, 0, 0, 0), x -> x.laid(LEAST, 0, 0, 0), x -> x.laid(MOST, 0, 0, 0));
    }

    @Says("BAD: also no such FIELD, v that can't stand in it.")
    static void p21_badLetterOrNoSuchField() {
        refused(BAD, x -> x.laid(0, -1, 0, 0), x -> x.laid(0, 8, 0, 0), x -> x.laid(0, 1, 0, 0), x -> x.laid(4, 0, 0, 0));
    }

    @Says("BAD: also no such FIELD, v that can't stand in it.")
    static void p21_badWord() {
        refused(BAD, x -> x.laid(0, 0, -1, 0), x -> x.laid(0, 0, 4096, 0), x -> x.laid(0, 0, LEAST, 0), x -> x.laid(0, 0, MOST, 0));
    }

    @Says("BAD: also no such FIELD, v that can't stand in it.")
    static void p21_badVOfAPlainField() {
        refused(BAD, x -> x.laid(0, 0, 0, -1), x -> x.laid(0, 0, 0, 16), x -> x.laid(0, 0, 0, LEAST), x -> x.laid(0, 0, 0, MOST));
        DecoderForge y = with(FIELDS);
        due("8 bits, 256", y.laid(0, 0, 0, 256), BAD);
        due("8 bits, -1", y.laid(0, 0, 0, -1), BAD);
        due("1 bit, 2", y.laid(0, 1, 0, 2), BAD);
        due("1 bit, -1", y.laid(0, 1, 0, -1), BAD);
    }

    @Says("BAD: also no such FIELD, v that can't stand in it.")
    static void p21_badVOfASignedField() {
        refused(BAD, x -> x.laid(0, 5, 0, 8), x -> x.laid(0, 5, 0, -9), x -> x.laid(1, 4, 0, 128), x -> x.laid(1, 4, 0, -129),
                x -> x.laid(1, 4, 0, LEAST), x -> x.laid(1, 4, 0, MOST));
        DecoderForge y = with(FIELDS);
        due("1 bit, 1", y.laid(1, 5, 0, 1), BAD);
        due("1 bit, -2", y.laid(1, 5, 0, -2), BAD);
    }

    @Says("The WORD with v standing in a FIELD, else as it is.")
    static void p21_leastAndMost() {
        DecoderForge x = with(FIELDS);
        due("w 0", x.laid(0, 0, 0xFFF, 0), 0x00F);
        due("w 255", x.laid(0, 0, 0x000, 255), 0xFF0);
        due("x 0", x.laid(0, 1, 0xFFF, 0), 0xFFE);
        due("x 1", x.laid(0, 1, 0x000, 1), 0x001);
        due("W -128", x.laid(1, 4, 0xFFF, -128), 0x80F);
        due("W 127", x.laid(1, 4, 0x000, 127), 0x7F0);
        due("X 0", x.laid(1, 5, 0xFFF, 0), 0xFFE);
        due("X -1", x.laid(1, 5, 0x000, -1), 0x001);
    }

    @Says("The WORD with v standing in a FIELD, else as it is.")
    static void p21_elseAsItIs() {
        DecoderForge x = with(FIELDS);
        due("z apart, 2", x.laid(2, 3, 0x000, 2), 0x100);
        due("z apart, 1 in all 1", x.laid(2, 3, 0xFFF, 1), 0xEFF);
        due("Z apart, -2 in all 1", x.laid(2, 7, 0xFFF, -2), 0xFFE);
        due("a word that doesn't fit", x.laid(2, 7, 0x000, 0), 0x000);
        asks(0xE5A, y -> y.laid(0, 0, 0xEFA, 5));
    }

    // ---- 22: hold

    @Says("BAD.")
    static void p22_badLetter() {
        refused(BAD, x -> x.hold(-1, 0), x -> x.hold(8, 0), x -> x.hold(LEAST, 0), x -> x.hold(MOST, 0));
    }

    @Says("BAD.")
    static void p22_badNumber() {
        refused(BAD, x -> x.hold(0, -129), x -> x.hold(0, 256), x -> x.hold(7, LEAST), x -> x.hold(7, MOST));
    }

    @Says("THE HAND holds v (-128 to 255) for a letter (0 to 7): what it held.")
    static void p22_leastAndMost() {
        for (int letter = 0; letter < 8; letter++) {
            DecoderForge x = new DecoderForge();
            due("at first", x.hold(letter, 255), 0);
            due("255", x.hold(letter, -128), 255);
            due("-128", x.hold(letter, 0), -128);
            due("0", x.hold(letter, 0), 0);
            due("refusals", x.refused(0), 0);
        }
    }

    @Says("THE HAND holds a number for each letter (0 at first).")
    static void p22_lettersAreApart() {
        DecoderForge x = new DecoderForge();
        for (int letter = 0; letter < 8; letter++) x.hold(letter, 10 + letter);
        for (int letter = 0; letter < 8; letter++) due("letter " + letter, x.hold(letter, 0), 10 + letter);
    }

    @Says("THE HAND holds v (-128 to 255) for a letter (0 to 7): what it held.")
    static void p22_numbersThatCantStandAreHeldToo() {
        DecoderForge x = with("pa:w...........");
        due("w 255", x.hold(0, 255), 0);
        due("w -1", x.hold(0, -1), 255);
        due("what it held", x.hold(0, 0), -1);
    }

    // ---- 23: make

    @Says("BAD: no such FORM, a number that can't stand in its FIELD.")
    static void p23_badForm() {
        refused(BAD, x -> x.make(-1), x -> x.make(9), x -> x.make(12), x -> x.make(13), x -> x.make(LEAST), x -> x.make(MOST));
    }

    private static DecoderForge holding(int letter, int v) {
        DecoderForge x = world();
        x.hold(letter, v);
        return x;
    }

    @Says("BAD: no such FORM, a number that can't stand in its FIELD.")
    static void p23_badNumberOfAPlainField() {
        refusedOn(() -> holding(0, 16), BAD, x -> x.make(0));
        refusedOn(() -> holding(0, -1), BAD, x -> x.make(0));
        refusedOn(() -> holding(0, 255), BAD, x -> x.make(0));
        due("15 stands", holding(0, 15).make(0), 0x1FE);
        due("0 stands", holding(0, 0).make(0), 0x10E);
    }

    @Says("BAD: no such FORM, a number that can't stand in its FIELD.")
    static void p23_badNumberOfASignedField() {
        refusedOn(() -> holding(5, 8), BAD, x -> x.make(0));
        refusedOn(() -> holding(5, -9), BAD, x -> x.make(0));
        refusedOn(() -> holding(4, 128), BAD, x -> x.make(1));
        due("7 stands", holding(5, 7).make(0), 0x177);
        due("-8 stands", holding(5, -8).make(0), 0x178);
        due("127 stands", holding(4, 127).make(1), 0x27F);
        due("-128 stands", holding(4, -128).make(1), 0x280);
    }

    @Says("a number that can't stand in its FIELD")
    static void p23_numbersOfOtherLettersDontMatter() {
        DecoderForge x = world();
        x.hold(7, 255);
        x.hold(1, -128);
        due("add asks for w and X", x.make(0), 0x17E);
        due("st asks for none", x.make(4), 0x500);
        due("g asks for Z", x.make(6), BAD);
    }

    @Says("STATE: it doesn't MEAN that FORM.")
    static void p23_stateByARule() {
        refusedOn(() -> holding(1, 3), STATE, x -> x.make(2));
        due("an even one", holding(1, 4).make(2), 0x340);
    }

    @Says("STATE: it doesn't MEAN that FORM.")
    static void p23_stateOfMixedOrAnother() {
        refused(STATE, x -> x.make(7), x -> x.make(8));
        due("another one", with("pa:............;pb:000000000000").make(0), STATE);
        due("that one", with("pa:............;pb:000000000000").make(1), 0);
    }

    @Says("An act tells the first of those that its words name, in their order")
    static void p23_badAheadOfState() {
        DecoderForge x = with("pa:0...wwwwxxxx,w#3;pb:0...........");
        x.hold(0, 3);
        due("STATE alone", x.make(0), STATE);
        x.hold(1, 16);
        due("both", x.make(0), BAD);
        due("refused(0)", x.refused(0), 1);
        due("refused(2)", x.refused(2), 1);
    }

    @Says("FREE BITS are 0, in each FIELD stands what THE HAND holds for its letter")
    static void p23_freeBitsAre0() {
        asks(0x500, x -> x.make(4));
        asks(0x600, x -> x.make(5));
        DecoderForge x = with("pa:1..z.Z..z..Z");
        x.hold(3, 2);
        x.hold(7, -1);
        due("fields apart", x.make(0), 0x941);
    }

    @Says("A WORD of a FORM is MADE.")
    static void p23_changesNothing() {
        asks(0x17E, x -> x.make(0));
        asks(0x2F9, x -> x.make(1));
    }

    // ---- 24: write

    @Says("BAD.")
    static void p24_badWord() {
        refused(BAD, x -> x.write(-1), x -> x.write(4096), x -> x.write(LEAST), x -> x.write(MOST));
    }

    private static void dueLine(String forms, int word, String want) {
        DecoderForge x = with(forms);
        due("write(" + word + ")", x.write(word), want.length());
        for (int i = 0; i < want.length(); i++) due("byte " + i + " of '" + want + "'", x.written(i), want.charAt(i));
        due("behind '" + want + "'", x.written(want.length()), NONE);
        due("count(2)", x.count(2), want.length());
    }

    @Says("Else ? (NONE) or ! (MIXED), and the WORD's number right behind it.")
    static void p24_noneAndMixed() {
        dueLine("", 0, "?0");
        dueLine("", 9, "?9");
        dueLine("", 10, "?10");
        dueLine("", 99, "?99");
        dueLine("", 100, "?100");
        dueLine("", 1000, "?1000");
        dueLine("", 4095, "?4095");
        dueLine("pa:............;pb:............", 0, "!0");
        dueLine("pa:............;pb:............", 4095, "!4095");
        dueLine("pa:............;pb:............", 2006, "!2006");
    }

    @Says("a blank and what stands in it (- ahead, if it is below 0; no 0 ahead of digits)")
    static void p24_numbersLeastAndMost() {
        dueLine("pa:wwwwwwww....", 0x000, "a 0");
        dueLine("pa:wwwwwwww....", 0xFF0, "a 255");
        dueLine("pa:wwwwwwww....", 0x640, "a 100");
        dueLine("pa:wwwwwwww....", 0x0A0, "a 10");
        dueLine("pa:wwwwwwww....", 0x090, "a 9");
        dueLine("pa:WWWWWWWW....", 0x800, "a -128");
        dueLine("pa:WWWWWWWW....", 0x7F0, "a 127");
        dueLine("pa:WWWWWWWW....", 0xFF0, "a -1");
        dueLine("pa:WWWWWWWW....", 0xF60, "a -10");
        dueLine("pa:W...........", 0x800, "a -1");
        dueLine("pa:W...........", 0x000, "a 0");
    }

    @Says("the NAME, then for each FIELD, by their highest BITS from BIT 11 on")
    static void p24_noFieldsAndEight() {
        dueLine("pa:............", 4095, "a");
        dueLine("pabc:............", 0, "abc");
        dueLine("pabc:WxYzXyZw....", 0xFF0, "abc -1 1 -1 1 -1 1 -1 1");
        dueLine("pabc:WxYzXyZw....", 0x00F, "abc 0 0 0 0 0 0 0 0");
        dueLine("pzz:x.w........x", 0x201, "zz 1 1");
        dueLine("pzz:x.w........x", 0x800, "zz 2 0");
    }

    @Says("The LINE of a WORD is written: how many bytes it has.")
    static void p24_aShorterLineBehindALongerOne() {
        DecoderForge x = world();
        due("add 15 -8", x.write(0x1F8), 9);
        due("t", x.write(0x600), 1);
        due("written(0)", x.written(0), 't');
        due("written(1)", x.written(1), NONE);
        due("count(2)", x.count(2), 1);
    }

    // ---- 25: written

    @Says("NONE: there is none such.")
    static void p25_noneBelow0OrBehind() {
        asks(NONE, x -> x.written(-1), x -> x.written(9), x -> x.written(63), x -> x.written(64), x -> x.written(LEAST),
                x -> x.written(MOST));
    }

    @Says("NONE: there is none such.")
    static void p25_noneBeforeALine() {
        DecoderForge x = new DecoderForge();
        due("written(0)", x.written(0), NONE);
        due("written(-1)", x.written(-1), NONE);
        due("refused(0)", x.refused(0), 0);
    }

    @Says("The i-th byte of the LINE written latest")
    static void p25_firstAndLastByte() {
        asks('a', x -> x.written(0));
        asks('-', x -> x.written(7));
        asks('8', x -> x.written(8));
    }

    @Says("The i-th byte of the LINE written latest")
    static void p25_staysBehindWhatElseIsDone() {
        DecoderForge x = world();
        x.write(-1);
        x.undo();
        x.back();
        x.wipe();
        text(x, "pz:0001........");
        read(x, "go 1");
        due("written(4)", x.written(4), '1');
        due("count(2)", x.count(2), 9);
    }

    // ---- 26: read

    @Says("THE TAPE, which is empty then, is a LINE")
    static void p26_theTapeIsEmptyThen() {
        DecoderForge x = with(WORLD);
        due("a line", read(x, "st"), 0x500);
        due("count(1)", x.count(1), 0);
        due("nothing is left", x.read(), -10);
        due("a fault", read(x, "st "), -12);
        due("count(1)", x.count(1), 0);
    }

    @Says("-10 less its FAULT (no REFUSAL)")
    static void p26_anEmptyTape() {
        lineFault("", "", 0);
        lineFault(WORLD, "", 0);
    }

    @Says("of a NAME that there isn't (also without a letter) the place behind it")
    static void p26_withoutALetter() {
        lineFault(WORLD, " add 1 1", 0);
        lineFault(WORLD, "1", 0);
        lineFault(WORLD, "-", 0);
        lineFault(WORLD, "ADD 1 1", 0);
        lineFault(WORLD, "`", 0);
        lineFault(WORLD, "{", 0);
        lineFault(WORLD, "?0", 0);
        lineFault(WORLD, "\0", 0);
        lineFault(WORLD, "\u00ff", 0);
    }

    @Says("of a NAME that there isn't (also without a letter) the place behind it")
    static void p26_aNameThatThereIsnt() {
        lineFault(WORLD, "zzz 1 1", 3);
        lineFault(WORLD, "ad 1 1", 2);
        lineFault(WORLD, "gg", 2);
        lineFault(WORLD, "z", 1);
        lineFault("", "a", 1);
    }

    @Says("a NAME (all letters a to z that stand there)")
    static void p26_aNameOfMoreThanThreeLetters() {
        lineFault(WORLD, "addx 1 1", 4);
        lineFault(WORLD, "addadd 1 1", 6);
        lineFault(WORLD, "stst", 4);
        lineFault(WORLD, "aadd 1 1", 4);
        lineFault(WORLD, "t".repeat(200), 200);
    }

    @Says("FAULT: the place of the first byte with which no LINE goes on")
    static void p26_bytesWithWhichNoLineGoesOn() {
        for (int sign = 0; sign < 256; sign++) {
            String s = String.valueOf((char) sign);
            boolean digit = sign >= '0' && sign <= '9';
            boolean more = sign == ' ' || sign >= 'a' && sign <= 'z';
            due("go, sign " + sign, read(with(WORLD), "go" + s), more ? -10 - 3 : -10 - 2);
            due("go .1, sign " + sign, read(with(WORLD), "go " + s + "1"),
                    digit ? 0x201 + 10 * (sign - '0') : sign == '-' ? 0x2FF : -10 - 3);
            due("go 1., sign " + sign, read(with(WORLD), "go 1" + s), digit ? 0x20A + sign - '0' : -10 - 4);
            due("st., sign " + sign, read(with(WORLD), "st" + s), sign >= 'a' && sign <= 'z' ? -10 - 3 : -10 - 2);
        }
    }

    @Says("as many numbers as there are FIELDS, each with one blank ahead")
    static void p26_oneBlankAhead() {
        lineFault(WORLD, "add  1 1", 4);
        lineFault(WORLD, "add 1  1", 6);
        lineFault(WORLD, "add\t1 1", 3);
        lineFault(WORLD, "add1 1", 3);
        lineFault(WORLD, "add,1 1", 3);
        lineStands(WORLD, "add 1 1", 0x111);
    }

    @Says("as many numbers as there are FIELDS")
    static void p26_oneNumberMore() {
        lineFault(WORLD, "add 1 1 1", 7);
        lineFault(WORLD, "add 1 1 ", 7);
        lineFault(WORLD, "st 0", 2);
        lineFault(WORLD, "st ", 2);
        lineFault(WORLD, "add 1 1;", 7);
        lineFault(WORLD, "st\0", 2);
    }

    @Says("as many numbers as there are FIELDS")
    static void p26_noFieldsAndEight() {
        lineStands(WORLD, "t", 0x600);
        lineStands("pabc:WxYzXyZw....", "abc -1 1 -1 1 -1 1 -1 1", 0xFF0);
        lineFault("pabc:WxYzXyZw....", "abc -1 1 -1 1 -1 1 -1", 21);
    }

    @Says("how many bytes there are, if it ends too early")
    static void p26_endsTooEarly() {
        String whole = "ld 14 12";
        for (int i = 0; i <= 6; i++) lineFault(WORLD, whole.substring(0, i), i);
        lineStands(WORLD, "ld 14 1", 0x3E1);
        lineStands(WORLD, whole, 0x3EC);
        lineFault(WORLD, "add 12 -", 8);
    }

    @Says("(- perhaps, then 1 to 3 digits; -0 and 0s ahead may stand)")
    static void p26_minus0AndZerosAhead() {
        lineStands(WORLD, "add -0 -0", 0x100);
        lineStands(WORLD, "add 000 -000", 0x100);
        lineStands(WORLD, "add 007 -007", 0x179);
        lineStands(WORLD, "add -00 00", 0x100);
        lineStands(WORLD, "go -001", 0x2FF);
    }

    @Says("(- perhaps, then 1 to 3 digits; -0 and 0s ahead may stand)")
    static void p26_noDigit() {
        lineFault(WORLD, "add x 1", 4);
        lineFault(WORLD, "add - 1", 5);
        lineFault(WORLD, "add --1 1", 5);
        lineFault(WORLD, "add +1 1", 4);
        lineFault(WORLD, "add /1 1", 4);
        lineFault(WORLD, "add :1 1", 4);
        lineFault(WORLD, "go -x", 4);
    }

    @Says("(- perhaps, then 1 to 3 digits; -0 and 0s ahead may stand)")
    static void p26_aFourthDigit() {
        lineFault(WORLD, "add 0001 1", 7);
        lineFault(WORLD, "add 1 0001", 9);
        lineFault(WORLD, "go 1270", 6);
        lineFault(WORLD, "go -1280", 7);
        lineFault("pa:wwwwwwww....", "a 2550", 5);
    }

    @Says("of a number (1 to 3 digits of it) that can't stand in its FIELD its first byte, whatever is behind")
    static void p26_numbersThatCantStand() {
        lineFault(WORLD, "add 16 1", 4);
        lineFault(WORLD, "add -1 1", 4);
        lineFault(WORLD, "add 1 8", 6);
        lineFault(WORLD, "add 1 -9", 6);
        lineFault(WORLD, "go 128", 3);
        lineFault(WORLD, "go -129", 3);
        lineFault("pa:wwwwwwww....", "a 256", 2);
        lineFault("pa:wwwwwwww....", "a 999", 2);
        lineFault("pa:w...........", "a 2", 2);
        lineFault("pa:W...........", "a 1", 2);
        lineFault("pa:W...........", "a -2", 2);
    }

    @Says("of a number (1 to 3 digits of it) that can't stand in its FIELD its first byte, whatever is behind")
    static void p26_numbersThatCantStandWhateverIsBehind() {
        lineFault(WORLD, "add 16", 4);
        lineFault(WORLD, "add 16x 1", 4);
        lineFault(WORLD, "add 1600 1", 4);
        lineFault(WORLD, "add 16 99 99", 4);
        lineFault(WORLD, "go -1290", 3);
        lineFault(WORLD, "go 128 ", 3);
        lineFault("pa:wwwwwwww....", "a 2560", 2);
    }

    @Says("of a number (1 to 3 digits of it) that can't stand in its FIELD its first byte, whatever is behind")
    static void p26_numbersThatJustStand() {
        lineStands(WORLD, "add 15 7", 0x1F7);
        lineStands(WORLD, "add 0 -8", 0x108);
        lineStands(WORLD, "go 127", 0x27F);
        lineStands(WORLD, "go -128", 0x280);
        lineStands("pa:wwwwwwww....", "a 255", 0xFF0);
        lineStands("pa:w...........", "a 1", 0x800);
        lineStands("pa:W...........", "a -1", 0x800);
    }

    @Says("if the WORD doesn't MEAN the FORM: how many bytes there are and 1 more")
    static void p26_aWordThatDoesntMeanTheForm() {
        lineFault(WORLD, "ld 3 0", 7);
        lineFault(WORLD, "ld 15 15", 9);
        lineFault(WORLD, "a", 2);
        lineFault(WORLD, "b", 2);
        lineFault("pa:............;pb:000000000000", "a", 2);
        lineStands("pa:............;pb:000000000000", "b", 0);
        lineStands(WORLD, "ld 14 15", 0x3EF);
    }

    @Says("if the WORD doesn't MEAN the FORM: how many bytes there are and 1 more")
    static void p26_otherFaultsAheadOfIt() {
        lineFault(WORLD, "ld 3 0 ", 6);
        lineFault(WORLD, "ld 3", 4);
        lineFault(WORLD, "a ", 1);
    }

    @Says("it gives the WORD that is MADE so")
    static void p26_theHandIsLeftAsItIs() {
        DecoderForge x = world();
        DecoderForge other = world();
        due("add 5 -3", x.read(), 0x15D);
        other.wipe();
        dueRefusals("read()", x, other, 0);
        dueAlike("read()", tale(x), tale(other));
    }
}
