/** Boundary cases of promises 16 to 18: trees. */
final class BoundsOfTrees extends Bounds {
    /** Six forms that fix one bit each: every way tests all six bits. */
    private static final String WIDEST = "pa:0...........;pb:.0..........;pc:..0.........;pd:...0........;"
            + "pe:....0.......;pf:.....0......";

    // ---- 16: greedy

    @Says("BAD: T (more than 6 BITS, too), what.")
    static void p16_badT() {
        refused(BAD, x -> x.greedy(-1, 0), x -> x.greedy(4096, 0), x -> x.greedy(4097, 2), x -> x.greedy(LEAST, 0),
                x -> x.greedy(MOST, 0));
    }

    @Says("BAD: T (more than 6 BITS, too), what.")
    static void p16_badTOfMoreThanSixBits() {
        refused(BAD, x -> x.greedy(0x07F, 0), x -> x.greedy(0xFE0, 0), x -> x.greedy(0xFFF, 3), x -> x.greedy(0xAAB, 1));
    }

    @Says("BAD: T (more than 6 BITS, too), what.")
    static void p16_badWhat() {
        refused(BAD, x -> x.greedy(1, -1), x -> x.greedy(1, 4), x -> x.greedy(0, LEAST), x -> x.greedy(0, MOST));
    }

    @Says("TREES test BITS out of a told set T (6 BITS at most).")
    static void p16_sixBits() {
        DecoderForge x = with(WIDEST);
        due("tests", x.greedy(0xFC0, 0), 63);
        due("on one way", x.greedy(0xFC0, 1), 6);
        due("first", x.greedy(0xFC0, 2), 11);
        due("crowd", x.greedy(0xFC0, 3), 6);
        due("the six lowest bits: none is fixed", x.greedy(0x03F, 0), 0);
    }

    @Says("TREES test BITS out of a told set T (6 BITS at most).")
    static void p16_noBits() {
        DecoderForge x = with(WIDEST);
        due("tests", x.greedy(0, 0), 0);
        due("on one way", x.greedy(0, 1), 0);
        due("first", x.greedy(0, 2), NONE);
        due("crowd", x.greedy(0, 3), 6);
    }

    @Says("TREES test BITS out of a told set T (6 BITS at most).")
    static void p16_oneBit() {
        DecoderForge x = with("pa:0..........1;pb:1..........1;pc:...........0");
        due("bit 11: tests", x.greedy(0x800, 0), 1);
        due("bit 11: one way", x.greedy(0x800, 1), 1);
        due("bit 11: first", x.greedy(0x800, 2), 11);
        due("bit 11: crowd", x.greedy(0x800, 3), 2);
        due("bit 0: first", x.greedy(0x001, 2), 0);
        due("bit 0: crowd", x.greedy(0x001, 3), 2);
    }

    @Says("2 the BIT that is tested first (NONE: a LEAF)")
    static void p16_noneIsTestedInALeaf() {
        due("no forms", new DecoderForge().greedy(63, 2), NONE);
        due("no fixed bits", with("pa:............;pb:wwwwwwww....").greedy(0xFC0, 2), NONE);
        due("fixed elsewhere", with("pa:0...........").greedy(0x7E0, 2), NONE);
    }

    @Says("At first all FORMS are CANDIDATES.")
    static void p16_noFormsAndTwelve() {
        for (int what : new int[] {0, 1, 3}) due("no forms: " + what, new DecoderForge().greedy(63, what), 0);
        DecoderForge x = with(alike(12, 'p', "............"));
        due("twelve: tests", x.greedy(63, 0), 0);
        due("twelve: crowd", x.greedy(63, 3), 12);
    }

    @Says("is USEFUL, if some CANDIDATE FIXES it")
    static void p16_oneCandidateIsEnough() {
        DecoderForge x = with("pa:1...........");
        due("tests", x.greedy(0x800, 0), 1);
        due("first", x.greedy(0x800, 2), 11);
        due("crowd: one side has none", x.greedy(0x800, 3), 1);
        DecoderForge y = with("pa:111111......");
        due("one way alone goes on", y.greedy(0xFC0, 0), 6);
        due("its length", y.greedy(0xFC0, 1), 6);
    }

    @Says("is USEFUL, if some CANDIDATE FIXES it")
    static void p16_usefulNoMore() {
        // behind bit 11 as 1 only b is left, which doesn't fix bit 10
        DecoderForge x = with("pa:00..........;pb:1...........");
        due("tests", x.greedy(0xC00, 0), 2);
        due("on one way", x.greedy(0xC00, 1), 2);
        due("first", x.greedy(0xC00, 2), 11);
    }

    @Says("that for which the more CANDIDATES of both sides are fewest")
    static void p16_theMoreAreFewest() {
        // bit 11: 3 and 1; bit 0: 2 and 2
        DecoderForge x = with("pa:0..........0;pb:0..........0;pc:0..........1;pd:1..........1");
        due("not the highest", x.greedy(0x801, 2), 0);
        due("alone", x.greedy(0x800, 2), 11);
    }

    @Says("of several that for which those of both sides together are fewest")
    static void p16_togetherAreFewest() {
        // bit 11: 2 and 2 (c is on both sides); bit 0: 2 and 1
        DecoderForge x = with("pa:0..........0;pb:1..........0;pc:...........1");
        due("not the highest", x.greedy(0x801, 2), 0);
    }

    @Says("of several the highest")
    static void p16_theHighest() {
        DecoderForge x = with("pa:000000000000;pb:111111111111");
        due("of 11 and 0", x.greedy(0x801, 2), 11);
        due("of 1 and 0", x.greedy(0x003, 2), 1);
        due("of 5 to 0", x.greedy(0x03F, 2), 5);
    }

    @Says("those that FIX it as 1 are none on side 0, those that FIX it as 0 none on side 1")
    static void p16_freeBitsAreOnBothSides() {
        DecoderForge x = with("pa:0...........;pb:1...........;pc:............;pd:wwww........");
        due("crowd", x.greedy(0x800, 3), 3);
        due("tests", x.greedy(0x800, 0), 1);
    }

    @Says("TREES test BITS out of a told set T (6 BITS at most).")
    static void p16_aSmallerTBehindALargerOne() {
        DecoderForge x = with(WIDEST);
        due("six bits: one way", x.greedy(0xFC0, 1), 6);
        due("one bit: one way", x.greedy(0x800, 1), 1);
        due("one bit: tests", x.greedy(0x800, 0), 1);
        due("no bits: one way", x.greedy(0, 1), 0);
        DecoderForge y = with("pa:0...........;pb:1...........");
        due("no bits: crowd", y.greedy(0, 3), 2);
        due("one bit: crowd", y.greedy(0x800, 3), 1);
    }

    // ---- 17: least

    @Says("BAD.")
    static void p17_badT() {
        refused(BAD, x -> x.least(-1, 0), x -> x.least(4096, 0), x -> x.least(LEAST, 1), x -> x.least(MOST, 1),
                x -> x.least(0x07F, 0), x -> x.least(0xFE0, 1), x -> x.least(0xFFF, 0));
    }

    @Says("BAD.")
    static void p17_badWhat() {
        refused(BAD, x -> x.least(1, -1), x -> x.least(1, 2), x -> x.least(0, LEAST), x -> x.least(0, MOST));
    }

    @Says("TREES test BITS out of a told set T (6 BITS at most).")
    static void p17_sixBits() {
        DecoderForge x = with(WIDEST);
        due("tests", x.least(0xFC0, 0), 63);
        due("first", x.least(0xFC0, 1), 11);
        DecoderForge y = with("pa:......111111");
        due("one way alone goes on", y.least(0x03F, 0), 6);
        due("first", y.least(0x03F, 1), 5);
    }

    @Says("(1; NONE: a LEAF)")
    static void p17_noneIsTestedInALeaf() {
        due("no forms", new DecoderForge().least(63, 1), NONE);
        due("no forms: tests", new DecoderForge().least(63, 0), 0);
        due("no bits", with(WIDEST).least(0, 1), NONE);
        due("no bits: tests", with(WIDEST).least(0, 0), 0);
        due("no fixed bits", with("pa:............").least(0xFC0, 1), NONE);
        due("fixed elsewhere", with("pa:0...........").least(0x7E0, 0), 0);
    }

    @Says("TREES test BITS out of a told set T (6 BITS at most).")
    static void p17_aSmallerTBehindALargerOne() {
        DecoderForge x = with(WIDEST);
        int[] sets = {0xFC0, 0xF80, 0xF00, 0xE00, 0xC00, 0x800, 0};
        for (int i = 0; i < 7; i++) {
            due("tests of " + sets[i], x.least(sets[i], 0), (1 << (6 - i)) - 1);
            due("first of " + sets[i], x.least(sets[i], 1), i < 6 ? 11 : NONE);
        }
    }

    @Says("with fewest TESTS in all (of all places of the TREE)")
    static void p17_fewerThanTheHighestFirst() {
        // bit 11 first: bit 10 on both sides; bit 10 first: only c is left on side 1
        DecoderForge x = with("pa:00..........;pb:10..........;pc:.1..........");
        due("tests", x.least(0xC00, 0), 2);
        due("first", x.least(0xC00, 1), 10);
    }

    @Says("the BIT that such a TREE tests first, of several the highest")
    static void p17_ofSeveralTheHighest() {
        DecoderForge x = with("pa:000000000000;pb:111111111111");
        due("first of 11 and 0", x.least(0x801, 1), 11);
        due("tests of 11 and 0", x.least(0x801, 0), 3);
        due("first of 1 and 0", x.least(0x003, 1), 1);
    }

    @Says("with fewest TESTS in all (of all places of the TREE)")
    static void p17_fewerThanGreedy() {
        // greedy parts 2 and 2 by bit 0, then a and c by bit 11, so that bit 10 is tested for each of them;
        // bit 10 first leaves d alone, and a, b, c need bits 11 and 0 with three tests
        DecoderForge x = with("pa:001........0;pb:000........1;pc:10.........0;pd:.1.........1");
        due("greedy tests", x.greedy(0xC01, 0), 6);
        due("least tests", x.least(0xC01, 0), 5);
        due("least first", x.least(0xC01, 1), 10);
    }

    @Says("a TREE that tests USEFUL BITS")
    static void p17_testsAsLongAsABitIsUseful() {
        // a alone is left on every way, but its bits are tested
        due("tests", with("pa:000.........").least(0xE00, 0), 3);
        due("one bit", with("pa:...........1").least(0x001, 0), 1);
    }

    // ---- 18: leaf

    @Says("BAD.")
    static void p18_badT() {
        refused(BAD, x -> x.leaf(-1, 0), x -> x.leaf(4096, 0), x -> x.leaf(LEAST, 0), x -> x.leaf(MOST, 0),
                x -> x.leaf(0x07F, 0), x -> x.leaf(0xFE0, 5), x -> x.leaf(0xFFF, 0));
    }

    @Says("BAD.")
    static void p18_badWord() {
        refused(BAD, x -> x.leaf(1, -1), x -> x.leaf(1, 4096), x -> x.leaf(0, LEAST), x -> x.leaf(0, MOST));
    }

    @Says("CANDIDATES (a set) in the LEAF of GREEDY by T to which a WORD comes.")
    static void p18_noneAndAllTwelve() {
        due("no forms", new DecoderForge().leaf(63, 0), 0);
        due("twelve", with(alike(12, 'p', "............")).leaf(63, 4095), 4095);
        due("twelve, no bits", with(alike(12, 'p', "000000000000")).leaf(0, 4095), 4095);
        due("twelve that are none", with(alike(12, 'p', "000000000000")).leaf(1, 4095), 0);
        due("twelve that are some", with(alike(12, 'p', "000000000000")).leaf(1, 4094), 4095);
    }

    @Says("CANDIDATES (a set) in the LEAF of GREEDY by T to which a WORD comes.")
    static void p18_sixBits() {
        DecoderForge x = with(WIDEST);
        due("all 0", x.leaf(0xFC0, 0x000), 63);
        due("all 1", x.leaf(0xFC0, 0xFFF), 0);
        due("bit 6 as 1", x.leaf(0xFC0, 0x040), 31);
        due("bit 11 as 1", x.leaf(0xFC0, 0x800), 62);
        due("bits that aren't in T", x.leaf(0x800, 0x7FF), 63);
    }

    @Says("Without such a BIT there is a LEAF.")
    static void p18_bitsThatAreNotTested() {
        // bit 10 comes first and leaves a alone on side 0, where bit 11 isn't useful
        DecoderForge x = with("pa:.0..........;pb:01..........;pc:11..........");
        due("a", x.leaf(0xC00, 0x000), 1);
        due("a, bit 11 isn't useful", x.leaf(0xC00, 0x800), 1);
        due("b", x.leaf(0xC00, 0x400), 2);
        due("c", x.leaf(0xC00, 0xC00), 4);
    }

    @Says("CANDIDATES (a set) in the LEAF of GREEDY by T to which a WORD comes.")
    static void p18_rulesDontMatter() {
        DecoderForge x = with("pa:0000wwww....,w#3;pb:............");
        due("one that doesn't fit", x.leaf(0xF00, 0x030), 3);
        due("one elsewhere", x.leaf(0xF00, 0xF30), 2);
    }
}
