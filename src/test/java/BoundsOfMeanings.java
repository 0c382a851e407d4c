/** Boundary cases of promises 8 to 15: what words mean. */
final class BoundsOfMeanings extends Bounds {
    private static final String DOTS = "............";

    // ---- 8: means

    @Says("BAD.")
    static void p08_badWord() {
        refused(BAD, x -> x.means(-1), x -> x.means(4096), x -> x.means(LEAST), x -> x.means(MOST));
    }

    @Says("WORDS have 12 BITS, 11 down to 0 (0 to 4095).")
    static void p08_firstAndLastWord() {
        DecoderForge x = with("pa:000000000000;pb:111111111111");
        due("means(0)", x.means(0), 0);
        due("means(4095)", x.means(4095), 1);
        due("means(1)", x.means(1), NONE);
        due("means(4094)", x.means(4094), NONE);
    }

    @Says("NONE, if none FITS; else MIXED")
    static void p08_noneFits() {
        asks(NONE, x -> x.means(0), x -> x.means(0x0FF), x -> x.means(0xE00), x -> x.means(4095), x -> x.means(0x310));
        due("without forms", new DecoderForge().means(7), NONE);
    }

    @Says("NONE, if none FITS; else MIXED")
    static void p08_mixed() {
        asks(MIXED, x -> x.means(0x800), x -> x.means(0x9FF));
        due("twins", with(alike(2, 'p', DOTS)).means(0), MIXED);
        due("twelve", with(alike(12, 'p', DOTS)).means(4095), MIXED);
    }

    @Says("A WORD MEANS the FORM that FITS it and is OVER each other one that FITS it")
    static void p08_theOnlyOneThatFits() {
        asks(7, x -> x.means(0xA00), x -> x.means(0xBFF));
        asks(8, x -> x.means(0xC00), x -> x.means(0xDFF));
        due("one without a fixed bit", with("pa:" + DOTS).means(4095), 0);
    }

    @Says("is OVER each other one that FITS it")
    static void p08_overMostIsNotOverEach() {
        DecoderForge x = with("pa:000.........;pb:0...........;pc:...0........");
        due("a, b, c fit", x.means(0), MIXED);
        due("a, b fit", x.means(0x100), 0);
        due("b fits", x.means(0x700), 1);
        due("c fits", x.means(0x800), 2);
    }

    @Says("is OVER each other one that FITS it")
    static void p08_overTwinsAndChains() {
        DecoderForge x = with("pa:0...........;pb:0...........;pc:00..........;pd:000.........");
        due("d over all", x.means(0), 3);
        due("c over twins", x.means(0x200), 2);
        due("twins", x.means(0x400), MIXED);
        due("none", x.means(0x800), NONE);
    }

    @Says("A FORM FITS a WORD whose FIXED BITS are as told, if all RULES hold in it.")
    static void p08_oneOverItThatDoesntFit() {
        DecoderForge x = with("pa:0...........;pb:00..wwww....,w#3");
        due("both fit", x.means(0x040), 1);
        due("by its rule b doesn't", x.means(0x030), 0);
    }

    @Says("is OVER each other one that FITS it")
    static void p08_twinsOfWhichARuleLeavesOne() {
        DecoderForge x = with("pa:0000wwww....,w#0;pb:0000wwww....,w/5");
        due("b alone", x.means(0x000), 1);
        due("a alone", x.means(0x010), 0);
        due("both", x.means(0x050), MIXED);
    }

    // ---- 9: fits

    @Says("BAD.")
    static void p09_badWord() {
        refused(BAD, x -> x.fits(-1), x -> x.fits(4096), x -> x.fits(LEAST), x -> x.fits(MOST));
    }

    @Says("FORMS (a set) that FIT a WORD.")
    static void p09_noneAndAllTwelve() {
        due("no forms", new DecoderForge().fits(0), 0);
        due("twelve", with(alike(12, 'p', DOTS)).fits(0), 4095);
        due("twelve, last word", with(alike(12, 'p', DOTS)).fits(4095), 4095);
        asks(0, x -> x.fits(0), x -> x.fits(4095));
        asks(0x180, x -> x.fits(0x800));
    }

    @Says("A FORM FITS a WORD whose FIXED BITS are as told")
    static void p09_eachFixedBit() {
        DecoderForge x = with("pa:101010101010;pb:............");
        due("as told", x.fits(0xAAA), 3);
        for (int bit = 0; bit < 12; bit++) due("but bit " + bit, x.fits(0xAAA ^ 1 << bit), 2);
    }

    @Says("l#N (what stands in FIELD l isn't N; N 0 to 255)")
    static void p09_isnt0AndIsnt255() {
        DecoderForge x = with("pa:....wwwwwwww,w#0;pb:....wwwwwwww,w#255;pc:....WWWWWWWW,W#255;pd:....WWWWWWWW,W#127");
        due("0", x.fits(0x000), 0b1110);
        due("1", x.fits(0x001), 0b1111);
        due("254", x.fits(0x0FE), 0b1111);
        due("255, -1", x.fits(0x0FF), 0b1101);
        due("127", x.fits(0x07F), 0b0111);
        due("128, -128", x.fits(0x080), 0b1111);
    }

    @Says("What stands in a FIELD is a number, of a signed one by two's complement.")
    static void p09_isntOfANumberBelow0() {
        DecoderForge x = with("pa:........WWWW,W#8;pb:........WWWW,W#7;pc:........wwww,w#8");
        due("1000: -8, 8", x.fits(8), 0b011);
        due("0111: 7", x.fits(7), 0b101);
        due("1111: -1, 15", x.fits(15), 0b111);
    }

    @Says("l/N (N divides it; N 2 to 9; 0 is divided by all)")
    static void p09_zeroIsDividedByAll() {
        StringBuilder s = new StringBuilder();
        for (int n = 2; n <= 9; n++) s.append(n == 2 ? "" : ";").append('p').append((char) ('a' + n)).append(":....wwwwwwww,w/").append(n);
        DecoderForge x = with(s.toString());
        due("0", x.fits(0), 255);
        due("1", x.fits(1), 0);
        due("2", x.fits(2), 0b00000001);
        due("9", x.fits(9), 0b10000010);
        due("252: by 2 3 4 6 7 9", x.fits(252), 0b10110111);
        due("255: by 3 5", x.fits(255), 0b00001010);
    }

    @Says("l/N (N divides it; N 2 to 9; 0 is divided by all)")
    static void p09_numbersBelow0AreDivided() {
        DecoderForge x = with("pa:....WWWWWWWW,W/2;pb:....WWWWWWWW,W/9;pc:....WWWWWWWW,W/3");
        due("-1", x.fits(0xFF), 0);
        due("-2", x.fits(0xFE), 0b001);
        due("-9", x.fits(0xF7), 0b110);
        due("-128", x.fits(0x80), 0b001);
        due("-126", x.fits(0x82), 0b111);
        due("0", x.fits(0), 0b111);
    }

    @Says("l<k (what stands in l is less than what stands in k)")
    static void p09_lessIsNotAlike() {
        DecoderForge x = with("pa:....wwwwxxxx,w<x");
        due("0 < 0", x.fits(0x00), 0);
        due("0 < 1", x.fits(0x01), 1);
        due("1 < 0", x.fits(0x10), 0);
        due("14 < 15", x.fits(0xEF), 1);
        due("15 < 15", x.fits(0xFF), 0);
        due("w < w", with("pa:....wwww....,w<w").fits(0), 0);
    }

    @Says("l<k (what stands in l is less than what stands in k)")
    static void p09_signedAndPlainAreCompared() {
        DecoderForge x = with("pa:....wwwwWWWW,W<w;pb:....wwwwWWWW,w<W");
        due("W -1, w 0", x.fits(0x0F), 1);
        due("W -8, w 15", x.fits(0xF8), 1);
        due("W 7, w 8", x.fits(0x87), 1);
        due("W 7, w 7", x.fits(0x77), 0);
        due("W 7, w 6", x.fits(0x67), 2);
        due("W -1, w 15", x.fits(0xFF), 1);
    }

    @Says("if all RULES hold in it")
    static void p09_allThreeRulesHold() {
        DecoderForge x = with("pa:....wwwwxxxx,w#2,x/3,w<x");
        due("all", x.fits(0x13), 1);
        due("not the first", x.fits(0x23), 0);
        due("not the second", x.fits(0x14), 0);
        due("not the third", x.fits(0x43), 0);
    }

    // ---- 10: over

    @Says("BAD: also one and the same.")
    static void p10_badForms() {
        refused(BAD, x -> x.over(-1, 0), x -> x.over(0, -1), x -> x.over(9, 0), x -> x.over(0, 9), x -> x.over(12, 0),
                x -> x.over(0, 13), x -> x.over(LEAST, MOST), x -> x.over(-1, -1), x -> x.over(9, 9));
    }

    @Says("Whether a FORM is OVER another one (1, 0).")
    static void p10_firstAndLastOfTwelve() {
        DecoderForge x = with("pz:............;" + alike(11, 'p', "0..........."));
        due("over(11, 0)", x.over(11, 0), 1);
        due("over(0, 11)", x.over(0, 11), 0);
        due("over(11, 10)", x.over(11, 10), 0);
        due("over(12, 0)", x.over(12, 0), BAD);
    }

    @Says("BAD: also one and the same.")
    static void p10_badOneAndTheSame() {
        refused(BAD, x -> x.over(0, 0), x -> x.over(8, 8));
    }

    @Says("if its MASK has all BITS of the other's MASK and more")
    static void p10_andMore() {
        DecoderForge x = with("pa:01..........;pb:01..........;pc:010.........;pd:............;pe:............");
        due("twins", x.over(0, 1), 0);
        due("twins", x.over(1, 0), 0);
        due("one bit more", x.over(2, 0), 1);
        due("one bit less", x.over(0, 2), 0);
        due("over one without", x.over(0, 3), 1);
        due("one without over it", x.over(3, 0), 0);
        due("two without", x.over(3, 4), 0);
    }

    @Says("if its MASK has all BITS of the other's MASK and more")
    static void p10_moreButNotAll() {
        DecoderForge x = with("pa:0000........;pb:....0.......;pc:000.........");
        due("none of its bits", x.over(0, 1), 0);
        due("none of its bits", x.over(1, 0), 0);
        due("all and more", x.over(0, 2), 1);
    }

    @Says("in the other's MASK both VALUES are alike")
    static void p10_valuesAreAlike() {
        DecoderForge x = with("pa:000000000000;pb:00000000000.;pc:00000000001.;pd:1...........");
        due("alike", x.over(0, 1), 1);
        due("one bit isn't", x.over(0, 2), 0);
        due("the highest isn't", x.over(0, 3), 0);
    }

    @Says("One is OVER another one, if its MASK has all BITS of the other's MASK and more")
    static void p10_rulesDontMatter() {
        DecoderForge x = with("pa:0wwww.......,w<w;pb:............;pc:0...........");
        due("a rule that never holds", x.over(0, 1), 1);
        due("a rule is no more", x.over(0, 2), 0);
    }

    // ---- 11: many

    @Says("BAD.")
    static void p11_badForm() {
        refused(BAD, x -> x.many(-1), x -> x.many(9), x -> x.many(11), x -> x.many(14), x -> x.many(LEAST), x -> x.many(MOST));
        due("without forms", new DecoderForge().many(0), BAD);
    }

    @Says("How many WORDS MEAN a FORM (12: NONE; 13: MIXED).")
    static void p11_noneAndMixed() {
        asks(0x100 + 0x200 + 128, x -> x.many(12));
        asks(0x200, x -> x.many(13));
    }

    @Says("How many WORDS MEAN a FORM (12: NONE; 13: MIXED).")
    static void p11_allAndNoneOfThem() {
        due("all NONE", new DecoderForge().many(12), 4096);
        due("none MIXED", new DecoderForge().many(13), 0);
        due("all of a form", with("pa:" + DOTS).many(0), 4096);
        due("none NONE", with("pa:" + DOTS).many(12), 0);
        due("all MIXED", with(alike(2, 'p', DOTS)).many(13), 4096);
        due("none of a form", with(alike(2, 'p', DOTS)).many(1), 0);
        due("one", with("pa:111111111111").many(0), 1);
        due("all but one", with("pa:111111111111").many(12), 4095);
    }

    @Says("How many WORDS MEAN a FORM (12: NONE; 13: MIXED).")
    static void p11_theLastOfTwelve() {
        DecoderForge x = with(alike(11, 'p', DOTS));
        text(x, "pz:0...........");
        due("the 12th form", x.many(11), 2048);
        due("12 is NONE", x.many(12), 0);
        due("13 is MIXED", x.many(13), 2048);
    }

    // ---- 12: covers

    @Says("(64 of them; p 0 to 63)")
    static void p12_firstAndLastP() {
        DecoderForge x = with("pa:000000000000;pb:111111111111;pc:000000......;pd:111111......");
        due("the first word", x.covers(0, 0), 1L);
        due("the last word", x.covers(1, 63), Long.MIN_VALUE);
        due("all but the first", x.covers(2, 0), -2L);
        due("all but the last", x.covers(3, 63), Long.MAX_VALUE);
        due("elsewhere", x.covers(2, 1), 0);
        due("elsewhere", x.covers(3, 62), 0);
    }

    @Says("0: no such FORM, p (nothing is refused)")
    static void p12_noSuchP() {
        asks(0, x -> x.covers(7, -1), x -> x.covers(7, 64), x -> x.covers(7, LEAST), x -> x.covers(7, MOST));
        DecoderForge all = with("pa:" + DOTS);
        due("all words at 63", all.covers(0, 63), -1L);
        due("all words at 64", all.covers(0, 64), 0);
        due("all words at -1", all.covers(0, -1), 0);
        due("all words at LEAST", all.covers(0, LEAST), 0);
        due("refused(0)", all.refused(0), 0);
    }

    @Says("0: no such FORM, p (nothing is refused)")
    static void p12_noSuchForm() {
        asks(0, x -> x.covers(-1, 0), x -> x.covers(9, 0), x -> x.covers(LEAST, 0), x -> x.covers(MOST, 63),
                x -> x.covers(-1, -1), x -> x.covers(9, 64));
    }

    @Says("0: no such FORM, p (nothing is refused)")
    static void p12_noneAndMixedAreNoForms() {
        asks(0, x -> x.covers(12, 0), x -> x.covers(13, 32));
        due("without forms", new DecoderForge().covers(12, 0), 0);
        due("all MIXED", with(alike(12, 'p', DOTS)).covers(13, 5), 0);
        due("all MIXED, of a form", with(alike(12, 'p', DOTS)).covers(11, 5), 0);
    }

    @Says("Which of the WORDS 64 p, 64 p + 1, ..")
    static void p12_eachP() {
        DecoderForge x = with("pa:.....1.....1;pb:............");
        for (int p = 0; p < 64; p++) {
            long odd = p % 2 == 1 ? 0xAAAAAAAAAAAAAAAAL : 0;
            due("a at " + p, x.covers(0, p), odd);
            due("b at " + p, x.covers(1, p), ~odd);
        }
    }

    @Says("as a set (BIT 0: the first one)")
    static void p12_bitsOfWords() {
        asks(0x0000FFFF0000FFFFL, x -> x.covers(2, 12));
        asks(-1L, x -> x.covers(0, 4), x -> x.covers(0, 7), x -> x.covers(7, 40));
        asks(0L, x -> x.covers(0, 3), x -> x.covers(0, 8), x -> x.covers(7, 39));
    }

    // ---- 13: next

    @Says("BAD.")
    static void p13_badForm() {
        refused(BAD, x -> x.next(-1, 0), x -> x.next(9, 0), x -> x.next(11, 0), x -> x.next(14, 0), x -> x.next(LEAST, 0),
                x -> x.next(MOST, 0));
    }

    @Says("BAD.")
    static void p13_badAbove() {
        refused(BAD, x -> x.next(0, -2), x -> x.next(0, 4096), x -> x.next(12, LEAST), x -> x.next(13, MOST));
    }

    @Says("is above a told one (-1 to 4095)")
    static void p13_aboveNothing() {
        asks(0, x -> x.next(12, -1));
        asks(0x100, x -> x.next(0, -1));
        due("0 means it", with("pa:" + DOTS).next(0, -1), 0);
    }

    @Says("is above a told one (-1 to 4095)")
    static void p13_aboveTheLast() {
        asks(NONE, x -> x.next(12, 4095), x -> x.next(0, 4095), x -> x.next(13, 4095));
        asks(4095, x -> x.next(12, 4094));
    }

    @Says("is above a told one (-1 to 4095)")
    static void p13_aboveIsNotAlike() {
        asks(0x101, x -> x.next(0, 0x100));
        asks(0x100, x -> x.next(0, 0x0FF));
        asks(0xE00, x -> x.next(12, 0x3FF), x -> x.next(12, 0xDFF));
    }

    @Says("The least WORD that MEANS a FORM (12: NONE; 13: MIXED)")
    static void p13_noneAndMixed() {
        asks(0x310, x -> x.next(12, 0x0FF));
        asks(0x800, x -> x.next(13, -1));
        asks(0x9FF, x -> x.next(13, 0x9FE));
        asks(NONE, x -> x.next(13, 0x9FF));
    }

    @Says("and is above a told one (-1 to 4095); NONE.")
    static void p13_noneIsAbove() {
        asks(NONE, x -> x.next(0, 0x1FF), x -> x.next(8, 0xDFF));
        due("one that no word means", with(alike(2, 'p', DOTS)).next(0, -1), NONE);
        due("no NONE", with("pa:" + DOTS).next(12, -1), NONE);
    }

    // ---- 14: clash

    @Says("BAD: i below 0, what.")
    static void p14_badI() {
        refused(BAD, x -> x.clash(-1, 0), x -> x.clash(-1, 1), x -> x.clash(LEAST, 0));
    }

    @Says("BAD: i below 0, what.")
    static void p14_badWhat() {
        refused(BAD, x -> x.clash(0, -1), x -> x.clash(0, 2), x -> x.clash(0, LEAST), x -> x.clash(0, MOST));
    }

    @Says("BAD: i below 0, what.")
    static void p14_badWhatWhereThereAreNotAsMany() {
        refused(BAD, x -> x.clash(99, 2), x -> x.clash(MOST, -1));
        due("without forms", new DecoderForge().clash(0, 2), BAD);
    }

    @Says("NONE: there are not as many.")
    static void p14_noneThere() {
        asks(NONE, x -> x.clash(1, 0), x -> x.clash(1, 1), x -> x.clash(66, 0), x -> x.clash(MOST, 0), x -> x.clash(MOST, 1));
        due("without forms", new DecoderForge().clash(0, 0), NONE);
        due("without a clash", with("pa:0...........;pb:00..........").clash(0, 1), NONE);
    }

    @Says("what 0 16 times a and b, 1 the WITNESS")
    static void p14_theFirst() {
        asks(16 * 7 + 8, x -> x.clash(0, 0));
        asks(0x800, x -> x.clash(0, 1));
    }

    @Says("by a, then by b")
    static void p14_all66OfTwelve() {
        DecoderForge x = with(alike(12, 'p', DOTS));
        int i = 0;
        for (int a = 0; a < 12; a++) {
            for (int b = a + 1; b < 12; b++) due("clash(" + i + ", 0)", x.clash(i++, 0), 16 * a + b);
        }
        due("clash(65, 1)", x.clash(65, 1), 0);
        due("clash(66, 0)", x.clash(66, 0), NONE);
    }

    @Says("the WITNESS: the least such WORD")
    static void p14_witnessesFirstAndLast() {
        due("4095", with(alike(2, 'p', "111111111111")).clash(0, 1), 4095);
        due("0", with(alike(2, 'p', "000000000000")).clash(0, 1), 0);
        // c is over both where all three are 0
        due("the least that is MIXED", with("pa:0...........;pb:.0..........;pc:000.........").clash(0, 1), 0x200);
    }

    @Says("that both FIT some WORD that is MIXED")
    static void p14_aPairThatIsOver() {
        DecoderForge x = with("pa:0...........;pb:00..........;pc:..0.........");
        int[][] pairs = {{0x01, 0}, {0x02, 0}, {0x12, 0}};
        for (int i = 0; i < 3; i++) {
            due("clash(" + i + ", 0)", x.clash(i, 0), pairs[i][0]);
            due("clash(" + i + ", 1)", x.clash(i, 1), pairs[i][1]);
        }
        due("clash(3, 0)", x.clash(3, 0), NONE);
    }

    @Says("that both FIT some WORD that is MIXED")
    static void p14_rulesKeepThemApart() {
        due("never both", with("pa:wwww........,w/2;pb:wwww........,w#0,w#2,w#4;pc:0110........").clash(0, 1), 0x800);
        due("no word of both", with("pa:0000wwwwxxxx,w<x;pb:0000wwwwxxxx,x<w").clash(0, 0), NONE);
    }

    // ---- 15: odd

    @Says("BAD.")
    static void p15_badWhat() {
        refused(BAD, x -> x.odd(-1), x -> x.odd(3), x -> x.odd(LEAST), x -> x.odd(MOST));
    }

    @Says("DEAD (what 0, a set), TWINS (1), how many CLASHES there are (2).")
    static void p15_ofNoForms() {
        for (int what = 0; what < 3; what++) due("odd(" + what + ")", new DecoderForge().odd(what), 0);
    }

    @Says("DEAD (what 0, a set), TWINS (1), how many CLASHES there are (2).")
    static void p15_ofTwelveAlike() {
        DecoderForge x = with(alike(12, 'p', DOTS));
        due("DEAD", x.odd(0), 4095);
        due("TWINS", x.odd(1), 66);
        due("CLASHES", x.odd(2), 66);
    }

    @Says("DEAD (what 0, a set), TWINS (1), how many CLASHES there are (2).")
    static void p15_theThreeAreApart() {
        asks(0, x -> x.odd(0), x -> x.odd(1));
        asks(1, x -> x.odd(2));
        int[] apart = {0, 1, 0};
        for (int what = 0; what < 3; what++) {
            due("twins that no word shows: " + what, with("pa:0000wwwwxxxx,w<x;pb:0000wwwwxxxx,x<w").odd(what), apart[what]);
        }
        due("DEAD alone", with("pa:w...........,w<w").odd(0), 1);
        due("DEAD alone, CLASHES", with("pa:w...........,w<w").odd(2), 0);
    }

    @Says("CLASHES: pairs of FORMS, a less than b, that both FIT some WORD that is MIXED")
    static void p15_anotherTextMendsAClash() {
        DecoderForge x = with("pa:0...........;pb:.0..........");
        due("CLASHES", x.odd(2), 1);
        due("DEAD", x.odd(0), 0);
        due("MIXED", x.many(13), 1024);
        text(x, "pc:00..........");
        due("CLASHES", x.odd(2), 0);
        due("clash(0, 0)", x.clash(0, 0), NONE);
        due("MIXED", x.many(13), 0);
        due("words of c", x.many(2), 1024);
        text(x, "pd:00..........;pe:01..........");
        due("CLASHES", x.odd(2), 6);
        due("the last", x.clash(5, 0), 0x23);
        due("DEAD", x.odd(0), 0b01101);
        due("NONE", x.many(12), 1024);
    }

    @Says("DEAD: FORMS that no WORD MEANS.")
    static void p15_dead() {
        due("by a rule", with("pa:wwww........,w<w;pb:0...........").odd(0), 1);
        due("below others", with("pa:............;pb:0...........;pc:1...........").odd(0), 1);
        due("by a rule of its number", with("pa:w...........,w#0,w#1").odd(0), 1);
        due("one word is enough", with("pa:1111111111..;pb:11111111110.;pc:111111111110").odd(0), 0);
        due("alone", with("pa:000000000000").odd(0), 0);
    }

    @Says("TWINS: how many pairs have the same MASK and the same VALUE.")
    static void p15_twins() {
        due("other kinds, fields, rules", with("pa:0...........;tb:0wwww.......,w#1").odd(1), 1);
        due("other values", with("pa:0...........;pb:1...........").odd(1), 0);
        due("other masks", with("pa:0...........;pb:00..........").odd(1), 0);
        due("without fixed bits", with("pa:............;pb:wwww........").odd(1), 1);
        due("three and two", with("pa:0...........;pb:1...........;pc:0...........;pd:1...........;pe:0...........").odd(1), 4);
    }
}
