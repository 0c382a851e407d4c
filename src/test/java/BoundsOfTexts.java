/** Boundary cases of promises 1 to 7: a new object, texts, forms. */
final class BoundsOfTexts extends Bounds {
    private static final String DOTS = "............";

    // ---- 1: a new object

    @Says("No FORMS.")
    static void p01_noForms() {
        DecoderForge x = new DecoderForge();
        due("count(0)", x.count(0), 0);
        for (int what = 0; what < 6; what++) due("formOf(0, " + what + ")", x.formOf(0, what), BAD);
        due("ofKind(0)", x.ofKind(0), 0);
        due("fits(0)", x.fits(0), 0);
        due("means(4095)", x.means(4095), NONE);
        due("many(12)", x.many(12), 4096);
        due("many(0)", x.many(0), BAD);
    }

    @Says("No FORMS.")
    static void p01_nothingElseEither() {
        DecoderForge x = new DecoderForge();
        for (int what = 0; what < 5; what++) due("count(" + what + ")", x.count(what), 0);
        for (int which = 0; which < 3; which++) due("refused(" + which + ")", x.refused(which), 0);
        due("written(0)", x.written(0), NONE);
        due("order(0)", x.order(0), NONE);
        due("met(0)", x.met(0), 0);
        due("wipe()", x.wipe(), 0);
    }

    @Says("THE HAND holds a number for each letter (0 at first).")
    static void p01_theHandHolds0() {
        DecoderForge x = new DecoderForge();
        for (int letter = 0; letter < 8; letter++) due("hold(" + letter + ", 9)", x.hold(letter, 9), 0);
    }

    @Says("32 CELLS of WORDS (0 at first)")
    static void p01_cellsAre0() {
        DecoderForge x = new DecoderForge();
        for (int cell = 0; cell < 32; cell++) due("cell(" + cell + ")", x.cell(cell), 0);
        due("holders(12)", x.holders(12), -1);
    }

    @Says("NONE is -1, MIXED is -2 (no REFUSALS).")
    static void p01_noneAndMixed() {
        due("NONE", DecoderForge.NONE, -1);
        due("MIXED", DecoderForge.MIXED, -2);
    }

    @Says("No FORMS.")
    static void p01_objectsAreApart() {
        DecoderForge used = world();
        used.means(9999);
        DecoderForge x = new DecoderForge();
        due("count(0)", x.count(0), 0);
        due("cell(0)", x.cell(0), 0);
        due("refused(0)", x.refused(0), 0);
        due("means(0x131)", x.means(0x131), NONE);
        due("the used one", used.means(0x131), 0);
        due("back()", x.back(), STATE);
    }

    @Says("An object is used for at most 512 calls after it has been made")
    static void p01_the512thCallAnswers() {
        DecoderForge x = new DecoderForge();
        for (int i = 0; i < 510; i++) x.put(i % 32, i);
        due("call 511", x.cell(509 % 32), 509);
        due("call 512", x.count(3), 16);
    }

    @Says("An object is used for at most 512 calls after it has been made")
    static void p01_512RefusalsAreCounted() {
        DecoderForge x = new DecoderForge();
        for (int i = 0; i < 511; i++) x.undo();
        due("call 512", x.refused(2), 511);
    }

    // ---- 2: feed

    @Says("The n lowest bytes (1 to 8) of a number")
    static void p02_oneByteIsTheFewest() {
        DecoderForge x = new DecoderForge();
        due("feed(.., 1)", x.feed(0x6161616161616170L, 1), 1);
        due("it is p alone: too early behind it", x.text(), -10 - 1);
    }

    @Says("The n lowest bytes (1 to 8) of a number")
    static void p02_eightBytesAreTheMost() {
        DecoderForge x = new DecoderForge();
        due("feed(.., 8)", x.feed(0x30303030303a6170L, 8), 8);
        due("count(1)", x.count(1), 8);
    }

    @Says("The n lowest bytes (1 to 8) of a number")
    static void p02_eachNTakesSoMany() {
        for (int n = 1; n <= 8; n++) {
            DecoderForge x = new DecoderForge();
            due("feed(.., " + n + ")", x.feed(-1L, n), n);
            due("count(1)", x.count(1), n);
        }
    }

    @Says("the lowest first")
    static void p02_theLowestComesFirst() {
        DecoderForge x = new DecoderForge();
        x.feed('p' | 'a' << 8 | ':' << 16, 3);
        x.feed(0x2e2e2e2e2e2e2e30L, 8);
        x.feed(0x312e2e2eL, 4);
        due("text()", x.text(), 1);
        due("mask", x.formOf(0, 1), 0x801);
        due("value", x.formOf(0, 2), 0x001);
    }

    @Says("The n lowest bytes (1 to 8) of a number")
    static void p02_theHighestByteOfAnEighth() {
        DecoderForge x = new DecoderForge();
        x.feed(0x7a00000000000000L | 'p' | 'a' << 8 | 'b' << 16 | 'c' << 24 | (long) ':' << 32
                | (long) '0' << 40 | (long) '1' << 48, 8);
        feed(x, ".........");
        due("z is the eighth: a field", x.text(), 1);
        due("its bits", x.field(0, 3, 1), 0x200);
    }

    @Says("The n lowest bytes (1 to 8) of a number")
    static void p02_bytesAbove127AreBytes() {
        DecoderForge x = new DecoderForge();
        due("feed(-1, 8)", x.feed(-1L, 8), 8);
        due("no kind's letter", x.text(), -10);
        feed(x, "pa:.......").feed(0xFF2eL, 2);
        due("the 255", x.text(), -10 - 11);
        feed(x, "pa:..").feed(Long.MIN_VALUE | 0x2e2e2e2e2e2e2eL, 8);
        due("the 128", x.text(), -10 - 12);
    }

    @Says("The n lowest bytes (1 to 8) of a number")
    static void p02_byte0IsAByte() {
        DecoderForge x = new DecoderForge();
        due("feed(0, 1)", x.feed(0, 1), 1);
        due("feed(0, 8)", x.feed(0, 8), 9);
        due("wipe()", x.wipe(), 9);
    }

    @Says("come behind THE TAPE: how many it has.")
    static void p02_comesBehind() {
        DecoderForge x = new DecoderForge();
        due("p", x.feed('p', 1), 1);
        due("ab", x.feed('a' | 'b' << 8, 2), 3);
        due(":", x.feed(':', 1), 4);
        feed(x, DOTS);
        due("text()", x.text(), 1);
        due("name ab", x.named(0, 1, NONE), 0);
    }

    @Says("BAD; FULL.")
    static void p02_badNBelow1() {
        refused(BAD, x -> x.feed(1, 0), x -> x.feed(1, -1), x -> x.feed(1, -8), x -> x.feed(1, LEAST));
    }

    @Says("BAD; FULL.")
    static void p02_badNAbove8() {
        refused(BAD, x -> x.feed(1, 9), x -> x.feed(1, 16), x -> x.feed(1, 257), x -> x.feed(1, MOST));
    }

    private static DecoderForge tapeOf(int bytes) {
        DecoderForge x = world();
        x.wipe();
        return feed(x, "z".repeat(bytes));
    }

    @Says("THE TAPE (bytes, 200 at most)")
    static void p02_200BytesStand() {
        due("the 200th", tapeOf(199).feed(7, 1), 200);
        due("from 192 to 200", tapeOf(192).feed(7, 8), 200);
        due("count(1)", tapeOf(200).count(1), 200);
    }

    @Says("BAD; FULL.")
    static void p02_fullAt201() {
        refusedOn(() -> tapeOf(200), FULL, x -> x.feed(1, 1), x -> x.feed(1, 8));
        refusedOn(() -> tapeOf(199), FULL, x -> x.feed(1, 2));
        refusedOn(() -> tapeOf(193), FULL, x -> x.feed(1, 8));
    }

    @Says("it changes nothing then but what refused() tells")
    static void p02_fullTakesNoneOfTheBytes() {
        DecoderForge x = tapeOf(197);
        due("feed(.., 4)", x.feed(0x7a7a7a7a, 4), FULL);
        due("count(1)", x.count(1), 197);
        due("feed(.., 3)", x.feed(0x7a7a7a, 3), 200);
        due("a name of 200 letters", x.read(), -210);
    }

    @Says("An act tells the first of those that its words name, in their order")
    static void p02_badAheadOfFull() {
        refusedOn(() -> tapeOf(200), BAD, x -> x.feed(1, 0), x -> x.feed(1, 9), x -> x.feed(1, -1));
        refusedOn(() -> tapeOf(195), BAD, x -> x.feed(1, 9));
    }

    @Says("THE TAPE (bytes, 200 at most)")
    static void p02_roomAgainBehindFull() {
        DecoderForge x = tapeOf(200);
        x.read();
        due("behind read", x.feed(1, 8), 8);
        x = tapeOf(200);
        x.text();
        due("behind text", x.feed(1, 8), 8);
        x = tapeOf(200);
        x.wipe();
        due("behind wipe", x.feed(1, 8), 8);
    }

    // ---- 3: wipe

    @Says("THE TAPE is empty then: how many it had.")
    static void p03_anEmptyTape() {
        DecoderForge x = new DecoderForge();
        due("wipe()", x.wipe(), 0);
        due("wipe() again", x.wipe(), 0);
        due("count(1)", x.count(1), 0);
    }

    @Says("THE TAPE is empty then: how many it had.")
    static void p03_aFullTape() {
        DecoderForge x = feed(new DecoderForge(), "a".repeat(200));
        due("wipe()", x.wipe(), 200);
        due("count(1)", x.count(1), 0);
    }

    @Says("THE TAPE is empty then: how many it had.")
    static void p03_whatWasThereIsGone() {
        DecoderForge x = feed(new DecoderForge(), "pzz:1111111111");
        due("wipe()", x.wipe(), 14);
        due("too early at 0", x.text(), -10);
        feed(x, "pzz:");
        x.wipe();
        due("a text", text(x, "pa:" + DOTS), 1);
        due("no name zz", x.named(25, 25, NONE), NONE);
    }

    @Says("THE TAPE is empty then: how many it had.")
    static void p03_leavesAllElse() {
        DecoderForge x = world();
        DecoderForge other = world();
        due("wipe()", x.wipe(), 8);
        other.read();
        dueRefusals("wipe()", x, other, 0);
        dueAlike("wipe()", tale(x), tale(other));
    }

    // ---- 4: text

    @Says("THE TAPE, which is empty then, is a TEXT")
    static void p04_anEmptyTapeIsNone() {
        textFault("", 0);
        textFault(WORLD, "", 0);
    }

    @Says("THE TAPE, which is empty then, is a TEXT")
    static void p04_theTapeIsEmptyThen() {
        DecoderForge x = new DecoderForge();
        text(x, "pa:" + DOTS);
        due("behind a text", x.count(1), 0);
        text(x, "pa:" + DOTS);
        due("behind a fault", x.count(1), 0);
        due("nothing is left", x.text(), -10);
    }

    @Says("-10 less its FAULT (no REFUSAL)")
    static void p04_aFaultIsNoRefusal() {
        DecoderForge x = new DecoderForge();
        due("a fault at 0", text(x, "?"), -10);
        due("a fault at 1", text(x, "p?"), -11);
        for (int which = 0; which < 3; which++) due("refused(" + which + ")", x.refused(which), 0);
    }

    @Says("a KIND's letter (p j l c s t g: 0 to 6)")
    static void p04_kindsLetters() {
        for (int sign = 0; sign < 256; sign++) {
            int kind = "pjlcstg".indexOf(sign);
            DecoderForge x = feed(new DecoderForge(), (char) sign + "a:" + DOTS);
            due("text behind sign " + sign, x.text(), kind < 0 ? -10 : 1);
            if (kind >= 0) due("kind of sign " + sign, x.formOf(0, 0), kind);
        }
    }

    @Says("a NAME (1 to 3 letters a to z; no two alike)")
    static void p04_aNameOfNoLetter() {
        textFault("p:" + DOTS, 1);
        textFault("p", 1);
        textFault("p0:", 1);
    }

    @Says("a NAME (1 to 3 letters a to z; no two alike)")
    static void p04_aNameOfOneToThreeLetters() {
        textStands("pa:" + DOTS, 1);
        textStands("pzz:" + DOTS, 1);
        textStands("pazm:" + DOTS, 1);
    }

    @Says("a NAME (1 to 3 letters a to z; no two alike)")
    static void p04_aNameOfFourLetters() {
        textFault("pabcd:" + DOTS, 4);
        textFault("pabcd", 4);
        textFault("pabc", 4);
    }

    @Says("a NAME (1 to 3 letters a to z; no two alike)")
    static void p04_signsOfNames() {
        for (int sign = 0; sign < 256; sign++) {
            boolean letter = sign >= 'a' && sign <= 'z';
            due("first, sign " + sign, text(new DecoderForge(), "p" + (char) sign + ":" + DOTS), letter ? 1 : -11);
            if (sign == ':') continue;
            due("second, sign " + sign, text(new DecoderForge(), "pq" + (char) sign + ":" + DOTS), letter ? 1 : -12);
            due("third, sign " + sign, text(new DecoderForge(), "pqr" + (char) sign + ":" + DOTS), letter ? 1 : -13);
        }
    }

    @Says("of a NAME that there is the : behind it")
    static void p04_aNameThatThereIs() {
        textFault("pa:" + DOTS, "ja:" + DOTS, 2);
        textFault("pab:" + DOTS, "pab:000000000000", 3);
        textFault("pabc:" + DOTS, "pabc:", 4);
        textFault("pa:" + DOTS + ";pb:" + DOTS, "pb:" + DOTS, 2);
    }

    @Says("of a NAME that there is the : behind it")
    static void p04_aNameThatThereIsInTheSameText() {
        textFault("pa:" + DOTS + ";ja:" + DOTS, 18);
        textFault("pabc:" + DOTS + ";pb:" + DOTS + ";tabc:" + DOTS, 38);
    }

    @Says("of a NAME that there is the : behind it")
    static void p04_aNameThatThereIsWithoutWhatIsBehind() {
        textFault("pab:" + DOTS, "pab", 3);
        textFault("pab:" + DOTS, "pab;", 3);
        textFault("pabc:" + DOTS, "pabcd:", 4);
    }

    @Says("a NAME (1 to 3 letters a to z; no two alike)")
    static void p04_namesThatAreNearlyAlike() {
        textStands("pa:" + DOTS + ";paa:" + DOTS + ";paaa:" + DOTS + ";pba:" + DOTS + ";pab:" + DOTS, 5);
    }

    @Says("a PATTERN: 12 signs")
    static void p04_aPatternOf11Signs() {
        textFault("pa:...........", 14);
        textFault("pa:...........;", 14);
        textFault("pa:...........,w#1", 14);
        textFault("pa:", 3);
    }

    @Says("a PATTERN: 12 signs")
    static void p04_aPatternOf13Signs() {
        textFault("pa:.............", 15);
        textFault("pa:0000000000000;", 15);
        textFault("pa:............w", 15);
    }

    @Says("0 or 1 (FIXED), . (FREE), a letter w x y z (a plain FIELD), W X Y Z (a signed FIELD)")
    static void p04_signsOfPatterns() {
        for (int sign = 0; sign < 256; sign++) {
            boolean stands = "01.wxyzWXYZ".indexOf(sign) >= 0;
            due("first, sign " + sign, text(new DecoderForge(), "pa:" + (char) sign + "..........."), stands ? 1 : -13);
            due("last, sign " + sign, text(new DecoderForge(), "pa:..........." + (char) sign), stands ? 1 : -24);
        }
    }

    @Says("are one FIELD (w and W are two), of 8 BITS at most")
    static void p04_eightBitsOfAField() {
        for (char letter : "wxyzWXYZ".toCharArray()) {
            textStands("pa:" + String.valueOf(letter).repeat(8) + "....", 1);
            textStands("pa:...." + String.valueOf(letter).repeat(8), 1);
        }
        textStands("pa:wwww0www1w.0", 1);
    }

    @Says("of a ninth BIT of a FIELD its sign")
    static void p04_aNinthBitOfAField() {
        for (char letter : "wxyzWXYZ".toCharArray()) {
            textFault("pa:" + String.valueOf(letter).repeat(9) + "...", 11);
            textFault("pa:" + String.valueOf(letter).repeat(12), 11);
        }
        textFault("pa:wwww0wwww1ww", 13);
        textFault("pa:wwww0wwww10w", 14);
        textFault("pa:wwwwwwwww", 11);
    }

    @Says("are one FIELD (w and W are two), of 8 BITS at most")
    static void p04_smallAndCapitalAreTwo() {
        textStands("pa:wwwwwwwwWWWW", 1);
        textStands("pa:WWWWWWWWwwww", 1);
        textFault("pa:WwwwwwwwwWWw", 14);
        due("two fields", with("pa:wWwWwWwWwWwW").formOf(0, 3), 2);
    }

    @Says("RULES (3 at most)")
    static void p04_threeRules() {
        textStands("pa:wwww........,w#1,w#2,w#3", 1);
        textStands("pa:wwww........,w#1,w#1,w#1;pb:w...........,w/2,w<w,w#0", 2);
    }

    @Says("of a fourth RULE the , ahead")
    static void p04_aFourthRule() {
        textFault("pa:wwww........,w#1,w#2,w#3,w#4", 27);
        textFault("pa:wwww........,w#1,w#2,w#3,", 27);
        textFault("pa:wwww........,w#1,w#2,w#3,;", 27);
        textFault("pb:" + DOTS + ";pa:wwww........,w/2,w<w,w#255,w/3", 45);
    }

    @Says("l#N (what stands in FIELD l isn't N; N 0 to 255)")
    static void p04_nOfIsnt0To255() {
        textStands("pa:wwww........,w#0", 1);
        textStands("pa:wwww........,w#255", 1);
        textStands("pa:w...........,w#255", 1);
        textStands("pa:W...........,W#255", 1);
    }

    @Says("of an N out of its bounds its first digit")
    static void p04_nOfIsntAbove255() {
        textFault("pa:wwww........,w#256", 18);
        textFault("pa:wwww........,w#300", 18);
        textFault("pa:wwww........,w#999", 18);
        textFault("pa:wwww........,w#1,w#256;", 22);
    }

    @Says("l/N (N divides it; N 2 to 9; 0 is divided by all)")
    static void p04_nOfDivides2To9() {
        textStands("pa:wwww........,w/2", 1);
        textStands("pa:wwww........,w/9", 1);
    }

    @Says("of an N out of its bounds its first digit")
    static void p04_nOfDividesBelow2Above9() {
        textFault("pa:wwww........,w/0", 18);
        textFault("pa:wwww........,w/1", 18);
        textFault("pa:wwww........,w/10", 18);
        textFault("pa:wwww........,w/99", 18);
        textFault("pa:wwww........,w/255", 18);
        textFault("pa:wwww........,w/000", 18);
    }

    @Says("N are 1 to 3 digits.")
    static void p04_nOfThreeDigits() {
        textStands("pa:wwww........,w#000", 1);
        textStands("pa:wwww........,w#007", 1);
        textStands("pa:wwww........,w/002", 1);
        textStands("pa:wwww........,w/09", 1);
        textFault("pa:wwww........,w/001", 18);
        textFault("pa:wwww........,w/010", 18);
    }

    @Says("N are 1 to 3 digits.")
    static void p04_nOfFourDigits() {
        textFault("pa:wwww........,w#0000", 21);
        textFault("pa:wwww........,w#2550", 21);
        textFault("pa:wwww........,w/0020", 21);
    }

    @Says("of an N out of its bounds its first digit")
    static void p04_nOutOfBoundsAheadOfAFourthDigit() {
        textFault("pa:wwww........,w#2560", 18);
        textFault("pa:wwww........,w/0010", 18);
        textFault("pa:wwww........,w/0x", 18);
    }

    @Says("N are 1 to 3 digits.")
    static void p04_nOfNoDigit() {
        textFault("pa:wwww........,w#", 18);
        textFault("pa:wwww........,w/", 18);
        textFault("pa:wwww........,w#,w#1", 18);
        textFault("pa:wwww........,w#;", 18);
        textFault("pa:wwww........,w#-1", 18);
        textFault("pa:wwww........,w#+1", 18);
        textFault("pa:wwww........,w#:", 18);
        textFault("pa:wwww........,w/w", 18);
    }

    @Says("of a letter in a RULE that isn't in the PATTERN its place")
    static void p04_aLetterThatIsntInThePattern() {
        textFault("pa:wwww........,x#1", 16);
        textFault("pa:wwww........,W#1", 16);
        textFault("pa:WWWW........,w#1", 16);
        textFault("pa:wwww........,z/2", 16);
        textFault("pa:wwww........,x<w", 16);
        textFault("pa:............,w", 16);
    }

    @Says("of a letter in a RULE that isn't in the PATTERN its place")
    static void p04_aLetterBehindLessThatIsntInThePattern() {
        textFault("pa:wwww........,w<x", 18);
        textFault("pa:wwww........,w<W", 18);
        textFault("pa:wwwwXXXX....,X<Y", 18);
        textFault("pa:wwww........,w#1,w<Z", 22);
    }

    @Says("of a letter in a RULE that isn't in the PATTERN its place")
    static void p04_lettersOfAnotherFormDontCount() {
        textFault("pa:wwww........;pb:xxxx........,w#1", 32);
        textFault("pa:wwww........", "pb:xxxx........,x<w", 18);
    }

    @Says("l<k (what stands in l is less than what stands in k)")
    static void p04_aLetterAndItself() {
        textStands("pa:wwww........,w<w", 1);
        textStands("pa:wwwwXXXX....,w<X,X<w", 1);
    }

    @Says("the place (from 0) of the first byte with which no TEXT goes on")
    static void p04_signsOfRules() {
        for (int sign = 0; sign < 256; sign++) {
            boolean stands = sign == '#' || sign == '/';
            due("sign " + sign, text(new DecoderForge(), "pa:wwww........,w" + (char) sign + "2"),
                    stands ? 1 : sign == '<' ? -28 : -27);
        }
    }

    @Says("the place (from 0) of the first byte with which no TEXT goes on")
    static void p04_signsBehindAPattern() {
        for (int sign = 0; sign < 256; sign++) {
            boolean more = sign == ',' || sign == ';';
            due("sign " + sign, text(new DecoderForge(), "pa:............" + (char) sign), more ? -26 : -25);
        }
    }

    @Says("STATEMENTS, parted by ;")
    static void p04_partedByOneSemicolon() {
        textStands("pa:" + DOTS + ";pb:" + DOTS, 2);
        textFault("pa:" + DOTS + ";", 16);
        textFault("pa:" + DOTS + ";;pb:" + DOTS, 16);
        textFault(";pa:" + DOTS, 0);
        textFault(";", 0);
        textFault("pa:" + DOTS + "pb:" + DOTS, 15);
        textFault("pa:" + DOTS + ",;", 16);
    }

    private static final String WHOLE = "pab:0wwwwXXX10..,w#12,X/3,w<X;jc:............";

    @Says("No blanks.")
    static void p04_noBlankAnywhere() {
        for (int i = 0; i <= WHOLE.length(); i++) {
            textFault(WHOLE.substring(0, i) + " " + WHOLE.substring(i), i);
        }
    }

    @Says("how many bytes there are, if it ends too early")
    static void p04_endsTooEarly() {
        String ends = ",16,20,21,25,29,";
        for (int i = 0; i < WHOLE.length(); i++) {
            String part = WHOLE.substring(0, i);
            if (ends.contains("," + i + ",")) {
                textStands(part, 1);
            } else {
                textFault(part, i);
            }
        }
        textStands(WHOLE, 2);
    }

    @Says("FORMS 0, 1, .. (12 at most)")
    static void p04_twelveFormsStand() {
        textStands(alike(12, 'p', DOTS), 12);
        DecoderForge x = with(alike(11, 'p', DOTS));
        due("the 12th", text(x, "gz:" + DOTS), 12);
        due("its kind", x.formOf(11, 0), 6);
    }

    @Says("of a 13th FORM its KIND's letter")
    static void p04_aThirteenthForm() {
        textFault(alike(12, 'p', DOTS), "pz:" + DOTS, 0);
        textFault("pz:" + DOTS, alike(12, 'p', DOTS), 11 * 16);
        textFault(alike(11, 'p', DOTS), "py:" + DOTS + ";pz:" + DOTS, 16);
    }

    @Says("of a 13th FORM its KIND's letter")
    static void p04_aThirteenthFormWhateverItIs() {
        String twelve = alike(12, 'p', DOTS);
        textFault(twelve, "?", 0);
        textFault(twelve, "p", 0);
        textFault(twelve, "pa:", 0);
        textFault(twelve, "", 0);
        textFault(alike(11, 'p', DOTS), "py:" + DOTS + ";", 16);
    }

    @Says("of a 13th FORM its KIND's letter")
    static void p04_aFaultAheadOfTheThirteenth() {
        textFault(alike(11, 'p', DOTS), "pa:" + DOTS + ";pz:" + DOTS, 2);
        textFault(alike(11, 'p', DOTS), "py:...........;pz:" + DOTS, 14);
    }

    @Says("the place (from 0) of the first byte with which no TEXT goes on")
    static void p04_ofSeveralFaultsTheFirst() {
        textFault("pa:wwwwwwwwwww.,W#300;pa:", 11);
        textFault("pa:wwww........,w#256,W#1,w/1,w<X,w#1", 18);
        textFault("pa:" + DOTS + ";pa:wwwwwwwww;", 18);
    }

    @Says("All FORMS of a TEXT come, or none.")
    static void p04_allOrNone() {
        textFault("pa:" + DOTS + ";pb:" + DOTS + ";pc:000000000000,", 48);
        textFault(WORLD, "py:0000........;pz:0000........,w#1", 32);
        textFault(WORLD, "py:0000........;pt:0000........", 18);
    }

    @Says("All FORMS of a TEXT come, or none.")
    static void p04_namesOfNoneAreFree() {
        DecoderForge x = with("pa:" + DOTS);
        due("a fault behind b", text(x, "pb:0...........;pc"), -10 - 18);
        due("no b", x.named(1, NONE, NONE), NONE);
        due("b and c", text(x, "jc:1wwwwwwww...,w#1;tb:............"), 3);
        due("c", x.named(2, NONE, NONE), 1);
        due("b", x.named(1, NONE, NONE), 2);
        due("mask of b", x.formOf(2, 1), 0);
        due("rules of b", x.formOf(2, 4), 0);
        due("fields of b", x.formOf(2, 3), 0);
    }

    @Says("All FORMS of a TEXT come, or none.")
    static void p04_fieldsAndRulesOfNoneAreForgotten() {
        DecoderForge x = new DecoderForge();
        due("a fault behind eight bits", text(x, "pa:wwwwwwww1...,w#0,w#1,w#2,"), -10 - 27);
        due("eight bits once more", text(x, "pa:.wwwwwwww0..,w#3"), 1);
        due("its bits", x.field(0, 0, 1), 0x7F8);
        due("w laid", x.laid(0, 0, 0xFFF, 0), 0x807);
        due("mask", x.formOf(0, 1), 4);
        due("value", x.formOf(0, 2), 0);
        due("rules", x.formOf(0, 4), 1);
        due("fits(0)", x.fits(0), 1);
        due("a fault behind fields", text(x, "pb:WWWWxxxx....;"), -10 - 16);
        due("a letter of it isn't in the pattern", text(x, "pb:ZZZZ........,W#1"), -10 - 16);
        due("b", text(x, "pb:...zzzzzzzz1"), 2);
        for (int letter = 0; letter < 8; letter++) {
            due("field " + letter, x.field(1, letter, 1), letter == 3 ? 0x1FE : NONE);
        }
    }

    @Says("a TEXT that is taken, and back(), leave none")
    static void p04_aTextLeavesNothingToTakeBack() {
        DecoderForge x = world();
        x.wipe();
        due("ahead", x.count(3), 16);
        due("a text", text(x, "pz:111111111111"), 10);
        due("count(3)", x.count(3), 0);
        due("undo()", x.undo(), STATE);
        due("what was done stays", x.cell(0), 0x131);
    }

    @Says("a TEXT that is taken, and back(), leave none")
    static void p04_aFaultLeavesWhatCanBeTakenBack() {
        DecoderForge x = world();
        x.wipe();
        due("a fault", text(x, "pz:11111111111"), -10 - 14);
        due("count(3)", x.count(3), 16);
        due("undo()", x.undo(), 15);
    }

    @Says("THE TAPE (bytes, 200 at most)")
    static void p04_aTextOf200Bytes() {
        StringBuilder s = new StringBuilder();
        for (int i = 0; i < 12; i++) {
            s.append(i == 0 ? "" : ";").append('p').append((char) ('a' + i)).append(i < 9 ? "q" : "").append(":").append(DOTS);
        }
        due("its length", s.length(), 200);
        textStands(s.toString(), 12);
    }

    @Says("how many bytes there are, if it ends too early")
    static void p04_tooEarlyBehind200Bytes() {
        StringBuilder s = new StringBuilder("pa:wwww........,w#12");
        for (int i = 1; i < 11; i++) s.append(";p").append((char) ('a' + i)).append(i < 10 ? "qr" : "q").append(":").append(DOTS);
        s.append(";");
        due("its length", s.length(), 200);
        textFault(s.toString(), 200);
    }

    // ---- 5: formOf

    @Says("BAD.")
    static void p05_badForm() {
        refused(BAD, x -> x.formOf(-1, 0), x -> x.formOf(9, 0), x -> x.formOf(11, 5), x -> x.formOf(12, 0),
                x -> x.formOf(13, 0), x -> x.formOf(LEAST, 0), x -> x.formOf(MOST, 0));
    }

    @Says("BAD.")
    static void p05_badWhat() {
        refused(BAD, x -> x.formOf(0, -1), x -> x.formOf(0, 6), x -> x.formOf(8, LEAST), x -> x.formOf(8, MOST));
    }

    @Says("Of a FORM: 0 KIND")
    static void p05_theLastOfTwelve() {
        DecoderForge x = with(alike(12, 'g', "11.........."));
        due("formOf(11, 0)", x.formOf(11, 0), 6);
        due("formOf(11, 1)", x.formOf(11, 1), 0xC00);
        due("formOf(12, 0)", x.formOf(12, 0), BAD);
    }

    @Says("1 MASK, 2 VALUE")
    static void p05_masksOfNoneAndAll() {
        DecoderForge x = with("pa:............;pb:111111111111;pc:000000000000;pd:1..........0;pe:wwwwXXXX....");
        int[] masks = {0, 4095, 4095, 0x801, 0};
        int[] values = {0, 4095, 0, 0x800, 0};
        for (int f = 0; f < 5; f++) {
            due("mask of " + f, x.formOf(f, 1), masks[f]);
            due("value of " + f, x.formOf(f, 2), values[f]);
        }
    }

    @Says("3 how many FIELDS, 4 how many RULES, 5 how many letters its NAME has")
    static void p05_fewestAndMost() {
        DecoderForge x = with("pa:............;pabc:wxyzWXYZwxyz,w#1,x/2,y<Z;pzz:w.w.w.w.w.w.,w#0");
        int[][] told = {{0, 0, 1}, {8, 3, 3}, {1, 1, 2}};
        for (int f = 0; f < 3; f++) {
            for (int k = 0; k < 3; k++) due("formOf(" + f + ", " + (3 + k) + ")", x.formOf(f, 3 + k), told[f][k]);
        }
    }

    // ---- 6: named

    @Says("BAD: letters, also one behind none.")
    static void p06_badFirstLetter() {
        refused(BAD, x -> x.named(-1, -1, -1), x -> x.named(-1, 3, 3), x -> x.named(26, 3, 3), x -> x.named(-2, 0, 0),
                x -> x.named(LEAST, 0, 0), x -> x.named(MOST, 0, 0), x -> x.named('a', -1, -1));
    }

    @Says("BAD: letters, also one behind none.")
    static void p06_badSecondLetter() {
        refused(BAD, x -> x.named(0, 26, -1), x -> x.named(0, -2, -1), x -> x.named(0, 26, 3), x -> x.named(0, LEAST, 0),
                x -> x.named(0, MOST, 0));
    }

    @Says("BAD: letters, also one behind none.")
    static void p06_badThirdLetter() {
        refused(BAD, x -> x.named(0, 3, 26), x -> x.named(0, 3, -2), x -> x.named(0, -1, -2), x -> x.named(0, 3, LEAST),
                x -> x.named(0, 3, MOST));
    }

    @Says("BAD: letters, also one behind none.")
    static void p06_badOneBehindNone() {
        refused(BAD, x -> x.named(0, -1, 0), x -> x.named(19, -1, 25), x -> x.named(0, -1, 26));
    }

    @Says("(0: a to 25: z; NONE: no letter there; the first is one)")
    static void p06_lettersAToZ() {
        DecoderForge x = with("pa:............;pz:............;paaa:............;pzzz:............;pza:............");
        due("a", x.named(0, NONE, NONE), 0);
        due("z", x.named(25, NONE, NONE), 1);
        due("aaa", x.named(0, 0, 0), 2);
        due("zzz", x.named(25, 25, 25), 3);
        due("za", x.named(25, 0, NONE), 4);
    }

    @Says("NONE: there is none.")
    static void p06_noneThereIs() {
        asks(NONE, x -> x.named(25, 25, 25), x -> x.named(0, 0, NONE), x -> x.named(0, 3, NONE), x -> x.named(3, 3, 0));
        due("without forms", new DecoderForge().named(0, NONE, NONE), NONE);
    }

    @Says("in that order")
    static void p06_inThatOrder() {
        DecoderForge x = with("pabc:............");
        due("abc", x.named(0, 1, 2), 0);
        due("acb", x.named(0, 2, 1), NONE);
        due("cba", x.named(2, 1, 0), NONE);
        due("ab", x.named(0, 1, NONE), NONE);
        due("bc", x.named(1, 2, NONE), NONE);
    }

    // ---- 7: ofKind

    @Says("BAD.")
    static void p07_badKind() {
        refused(BAD, x -> x.ofKind(-1), x -> x.ofKind(7), x -> x.ofKind(LEAST), x -> x.ofKind(MOST));
    }

    @Says("FORMS (a set) of a KIND or of one under it.")
    static void p07_noneAndAllTwelve() {
        for (int kind = 0; kind < 7; kind++) due("of no forms", new DecoderForge().ofKind(kind), 0);
        due("of 12", with(alike(12, 'p', DOTS)).ofKind(0), 4095);
        due("of 12, another kind", with(alike(12, 'p', DOTS)).ofKind(1), 0);
        due("12 under it", with(alike(12, 'g', DOTS)).ofKind(0), 4095);
    }

    @Says("KINDS: 0 PLAIN; 1 JUMP, 2 LOAD, 5 TRAP under PLAIN; 3 CALL under JUMP; 4 STORE under LOAD; 6 GATE under CALL.")
    static void p07_eachKind() {
        DecoderForge x = with("pa:............;jb:............;lc:............;cd:............;se:............;"
                + "tf:............;gg:............");
        int[] sets = {0b1111111, 0b1001010, 0b0010100, 0b1001000, 0b0010000, 0b0100000, 0b1000000};
        for (int kind = 0; kind < 7; kind++) due("ofKind(" + kind + ")", x.ofKind(kind), sets[kind]);
    }
}
