/** Boundary cases of promises 27 to 36: the store. */
final class BoundsOfStore extends Bounds {
    /** Words: 0x100 PLAIN, 0x200 JUMP, 0x300 LOAD, 0x400 CALL, 0x500 STORE, 0x600 TRAP, 0x700 GATE; 0x800 a JUMP
        of a plain field; without fields 0x900 CALL, 0xA00 GATE, 0xB00 JUMP; 0xC00 MIXED; 0 and 0xD00 NONE. */
    private static final String WAYS = "pp:0001....wwww;jj:0010WWWWWWWW;ll:0011........;cc:0100WWWWWWWW;ss:0101....wwww;"
            + "tt:0110........;gg:0111WWWWWWWW;jk:1000wwwwwwww;cm:1001........;gn:1010........";
    private static final String MORE_WAYS = "jo:1011........;pq:110........1";

    private static DecoderForge ways(int... cellsAndWords) {
        DecoderForge x = with(WAYS);
        text(x, MORE_WAYS);
        for (int i = 0; i + 1 < cellsAndWords.length; i += 2) x.put(cellsAndWords[i], cellsAndWords[i + 1]);
        return x;
    }

    /** All five answers of a walk. */
    private static void dueWay(DecoderForge x, int cell, int n, int... want) {
        for (int what = 0; what < 5; what++) {
            due("walk(" + cell + ", " + n + ", " + what + ")", x.walk(cell, n, what), want[what]);
        }
    }

    // ---- 27: put

    @Says("BAD.")
    static void p27_badCell() {
        refused(BAD, x -> x.put(-1, 0), x -> x.put(32, 0), x -> x.put(LEAST, 0), x -> x.put(MOST, 0));
    }

    @Says("BAD.")
    static void p27_badWord() {
        refused(BAD, x -> x.put(0, -1), x -> x.put(0, 4096), x -> x.put(31, LEAST), x -> x.put(31, MOST), x -> x.put(-1, -1));
    }

    @Says("The WORD in a CELL becomes another one: which it was.")
    static void p27_firstAndLast() {
        DecoderForge x = new DecoderForge();
        due("put(0, 4095)", x.put(0, 4095), 0);
        due("put(0, 0)", x.put(0, 0), 4095);
        due("put(31, 4095)", x.put(31, 4095), 0);
        due("put(31, 1)", x.put(31, 1), 4095);
        due("cell(0)", x.cell(0), 0);
        due("cell(1)", x.cell(1), 0);
        due("cell(30)", x.cell(30), 0);
        due("cell(31)", x.cell(31), 1);
    }

    // ---- 28: cell

    @Says("BAD.")
    static void p28_badCell() {
        refused(BAD, x -> x.cell(-1), x -> x.cell(32), x -> x.cell(LEAST), x -> x.cell(MOST));
    }

    @Says("THE STORE: 32 CELLS of WORDS (0 at first).")
    static void p28_firstAndLast() {
        DecoderForge x = new DecoderForge();
        for (int i = 0; i < 32; i++) x.put(i, 4095 - i);
        for (int i = 0; i < 32; i++) due("cell(" + i + ")", x.cell(i), 4095 - i);
    }

    // ---- 29: copy

    @Says("BAD: a CELL, n below 0, they don't all stand there, there is not as much room")
    static void p29_badCell() {
        refused(BAD, x -> x.copy(-1, 0, 1), x -> x.copy(32, 0, 1), x -> x.copy(0, -1, 1), x -> x.copy(0, 32, 1),
                x -> x.copy(LEAST, 0, 1), x -> x.copy(0, MOST, 1));
    }

    @Says("BAD: a CELL, n below 0, they don't all stand there, there is not as much room")
    static void p29_badCellOfNone() {
        refused(BAD, x -> x.copy(32, 0, 0), x -> x.copy(0, 32, 0), x -> x.copy(-1, 0, 0), x -> x.copy(0, -1, 0));
    }

    @Says("BAD: a CELL, n below 0, they don't all stand there, there is not as much room")
    static void p29_badNBelow0() {
        refused(BAD, x -> x.copy(0, 0, -1), x -> x.copy(31, 31, -1), x -> x.copy(0, 8, LEAST));
    }

    @Says("they don't all stand there")
    static void p29_badTheyDontAllStandThere() {
        refused(BAD, x -> x.copy(31, 0, 2), x -> x.copy(1, 0, 32), x -> x.copy(16, 0, 17), x -> x.copy(1, 0, MOST));
    }

    @Says("there is not as much room (CELLS don't go round)")
    static void p29_badThereIsNotAsMuchRoom() {
        refused(BAD, x -> x.copy(0, 31, 2), x -> x.copy(0, 1, 32), x -> x.copy(0, 16, 17), x -> x.copy(0, 0, 33),
                x -> x.copy(0, 1, MOST), x -> x.copy(0, 0, MOST));
    }

    private static DecoderForge numbered() {
        DecoderForge x = new DecoderForge();
        for (int i = 0; i < 32; i++) x.put(i, 100 + i);
        return x;
    }

    @Says("n WORDS from a CELL on come to another one on (as they all were): n.")
    static void p29_noneAndAll() {
        DecoderForge x = numbered();
        due("none", x.copy(5, 9, 0), 0);
        due("none of the last", x.copy(31, 31, 0), 0);
        due("all", x.copy(0, 0, 32), 32);
        for (int i = 0; i < 32; i++) due("cell(" + i + ")", x.cell(i), 100 + i);
    }

    @Says("n WORDS from a CELL on come to another one on (as they all were): n.")
    static void p29_upToTheLastCell() {
        DecoderForge x = numbered();
        due("copy(0, 31, 1)", x.copy(0, 31, 1), 1);
        due("cell(31)", x.cell(31), 100);
        due("copy(31, 1, 1)", x.copy(31, 1, 1), 1);
        due("cell(1)", x.cell(1), 100);
        due("copy(16, 0, 16)", x.copy(16, 0, 16), 16);
        due("cell(15)", x.cell(15), 100);
        due("cell(14)", x.cell(14), 130);
        due("copy(0, 16, 16)", x.copy(0, 16, 16), 16);
        due("cell(16)", x.cell(16), 116);
    }

    @Says("(as they all were)")
    static void p29_overThemselves() {
        DecoderForge x = numbered();
        due("onward", x.copy(0, 1, 31), 31);
        due("cell(0)", x.cell(0), 100);
        for (int i = 1; i < 32; i++) due("cell(" + i + ")", x.cell(i), 99 + i);
        DecoderForge y = numbered();
        due("back", y.copy(1, 0, 31), 31);
        for (int i = 0; i < 31; i++) due("cell(" + i + ")", y.cell(i), 101 + i);
        due("cell(31)", y.cell(31), 131);
    }

    // ---- 30: holders

    @Says("BAD.")
    static void p30_badForm() {
        refused(BAD, x -> x.holders(-1), x -> x.holders(9), x -> x.holders(11), x -> x.holders(14), x -> x.holders(LEAST),
                x -> x.holders(MOST));
    }

    @Says("CELLS (a set) whose WORDS MEAN a FORM (12: NONE; 13: MIXED).")
    static void p30_noneAndMixed() {
        DecoderForge x = ways(0, 0xC01, 31, 0x100, 5, 0xD00);
        due("MIXED: no such", x.holders(13), 0);
        due("pq", x.holders(11), 1);
        due("p", x.holders(0), LEAST);
        due("NONE", x.holders(12), 0x7FFFFFFE);
        DecoderForge y = with("pa:0...........;pb:.0..........");
        due("all MIXED", y.holders(13), -1);
        due("none NONE", y.holders(12), 0);
        due("none of a", y.holders(0), 0);
        y.put(0, 0x400);
        y.put(31, 0xC00);
        due("a", y.holders(0), 1);
        due("NONE", y.holders(12), LEAST);
        due("MIXED", y.holders(13), 0x7FFFFFFE);
    }

    @Says("CELLS (a set) whose WORDS MEAN a FORM (12: NONE; 13: MIXED).")
    static void p30_allCells() {
        due("no forms", new DecoderForge().holders(12), -1);
        due("no forms, MIXED", new DecoderForge().holders(13), 0);
        due("all of a form", with("pa:............").holders(0), -1);
    }

    // ---- 31: walk

    @Says("BAD.")
    static void p31_badCell() {
        refused(BAD, x -> x.walk(-1, 1, 0), x -> x.walk(32, 1, 0), x -> x.walk(LEAST, 1, 0), x -> x.walk(MOST, 1, 0));
    }

    @Says("BAD.")
    static void p31_badN() {
        refused(BAD, x -> x.walk(0, -1, 0), x -> x.walk(0, 201, 0), x -> x.walk(0, LEAST, 0), x -> x.walk(0, MOST, 0));
    }

    @Says("BAD.")
    static void p31_badWhat() {
        refused(BAD, x -> x.walk(0, 1, -1), x -> x.walk(0, 1, 5), x -> x.walk(0, 0, LEAST), x -> x.walk(0, 0, MOST));
    }

    @Says("n STEPS (0 to 200) from a CELL on")
    static void p31_noSteps() {
        DecoderForge x = ways(0, 0x100, 31, 0x100);
        dueWay(x, 0, 0, 0, 0, 0, 0, 0);
        dueWay(x, 31, 0, 31, 0, 0, 0, 0);
    }

    @Says("n STEPS (0 to 200) from a CELL on")
    static void p31_200Steps() {
        DecoderForge x = ways(0, 0x201, 1, 0x2FF);
        dueWay(x, 0, 200, 0, 200, 800, 0, 3);
        dueWay(x, 0, 199, 1, 199, 796, 0, 3);
        dueWay(x, 0, 1, 1, 1, 4, 0, 1);
    }

    @Says("to the next CELL (behind 31: 0)")
    static void p31_behind31Comes0() {
        dueWay(ways(31, 0x10F), 31, 1, 0, 1, 2, 0, LEAST);
        dueWay(ways(31, 0x300), 31, 1, 0, 1, 3, 0, LEAST);
        dueWay(ways(31, 0x50F), 31, 1, 0, 1, 5, 0, LEAST);
        dueWay(ways(30, 0x10F), 30, 1, 31, 1, 2, 0, 1 << 30);
    }

    @Says("to the next CELL (behind 31: 0)")
    static void p31_allCellsRound() {
        DecoderForge x = ways();
        for (int i = 0; i < 32; i++) x.put(i, 0x100);
        dueWay(x, 5, 32, 5, 32, 64, 0, -1);
        dueWay(x, 5, 31, 4, 31, 62, 0, ~(1 << 4));
        dueWay(x, 5, 200, 13, 200, 400, 0, -1);
    }

    @Says("JUMP: FIRST CELLS on (below 0: back; round).")
    static void p31_jumpsGoRound() {
        dueWay(ways(31, 0x201), 31, 1, 0, 1, 4, 0, LEAST);
        dueWay(ways(0, 0x2FF), 0, 1, 31, 1, 4, 0, 1);
        dueWay(ways(5, 0x27F), 5, 1, 4, 1, 4, 0, 32);
        dueWay(ways(5, 0x280), 5, 1, 5, 1, 4, 0, 32);
        dueWay(ways(5, 0x281), 5, 1, 6, 1, 4, 0, 32);
        dueWay(ways(0, 0x2DF), 0, 1, 31, 1, 4, 0, 1);
        dueWay(ways(5, 0x8FF), 5, 1, 4, 1, 4, 0, 32);
        dueWay(ways(5, 0x820), 5, 1, 5, 1, 4, 0, 32);
        dueWay(ways(31, 0x8FF), 31, 1, 30, 1, 4, 0, LEAST);
    }

    @Says("JUMP: FIRST CELLS on (below 0: back; round).")
    static void p31_aJumpOf0Stays() {
        dueWay(ways(7, 0x200), 7, 200, 7, 200, 800, 0, 1 << 7);
    }

    @Says("FIRST: what stands in the FIELD with the highest BIT (0, if there is none).")
    static void p31_firstWithoutAField() {
        dueWay(ways(7, 0xB55), 7, 3, 7, 3, 9, 0, 1 << 7);
        dueWay(ways(7, 0x955), 7, 1, 7, 1, 6, 1, 1 << 7);
        dueWay(ways(7, 0xA55), 7, 1, 7, 1, 6, 1, 1 << 7);
    }

    @Says("FIRST: what stands in the FIELD with the highest BIT (0, if there is none).")
    static void p31_firstOfTwoFields() {
        DecoderForge x = with("ja:01xxwwwwww.x;jb:1w...XXXXXX.");
        // x: bits 9, 8, 0: 101 is 5; w is 9
        x.put(0, 0x400 | 0x200 | 9 << 2 | 1);
        due("x is first", x.walk(0, 1, 0), 5);
        // w: bit 10 is 1; X is -1
        x.put(0, 0xC7E);
        due("w is first", x.walk(0, 1, 0), 1);
        x.put(0, 0x87E);
        due("w of 0", x.walk(0, 1, 0), 0);
    }

    @Says("the next CELL is kept")
    static void p31_aCallKeepsTheNext() {
        DecoderForge x = ways(31, 0x406, 5, 0x600);
        dueWay(x, 31, 1, 5, 1, 8, 1, LEAST);
        dueWay(x, 31, 2, 0, 2, 17, 0, LEAST | 32);
        dueWay(x, 31, 3, 0, 2, 17, 0, LEAST | 32);
    }

    @Says("CALL: as a JUMP")
    static void p31_callsGoRound() {
        dueWay(ways(0, 0x4FF), 0, 1, 31, 1, 8, 1, 1);
        dueWay(ways(31, 0x401), 31, 1, 0, 1, 8, 1, LEAST);
        dueWay(ways(3, 0x480), 3, 1, 3, 1, 8, 1, 8);
    }

    @Says("if 4 RETURNS are kept the oldest one is lost")
    static void p31_fourReturnsAreTheMost() {
        DecoderForge x = ways(0, 0x400);
        for (int n = 1; n <= 6; n++) due("returns behind " + n, x.walk(0, n, 3), Math.min(n, 4));
        due("returns behind 200", x.walk(0, 200, 3), 4);
    }

    @Says("if 4 RETURNS are kept the oldest one is lost")
    static void p31_theOldestIsLost() {
        DecoderForge x = ways();
        for (int i = 0; i < 5; i++) {
            x.put(4 * i, 0x404);
            x.put(4 * i + 1, 0x600);
        }
        x.put(20, 0x600);
        // kept: 5 9 13 17 (1 is lost); traps at 20, 17, 13, 9 lead to them, the one at 5 halts
        dueWay(x, 0, 200, 5, 9, 5 * 8 + 4 * 9, 0, 0x133311);
        // with four calls none is lost: traps at 20, 17, 13, 9, then the one at 5 halts
        dueWay(x, 4, 200, 5, 8, 4 * 8 + 4 * 9, 0, 0x133310);
    }

    @Says("TRAP: to the latest RETURN, which is kept no more; HALT, if none is.")
    static void p31_aTrapWithoutAReturnHalts() {
        dueWay(ways(9, 0x600), 9, 200, 9, 0, 0, 0, 0);
        dueWay(ways(9, 0x6FF, 8, 0x100), 8, 200, 9, 1, 2, 0, 1 << 8);
    }

    @Says("TRAP: to the latest RETURN, which is kept no more; HALT, if none is.")
    static void p31_aTrapTakesTheLatest() {
        // calls at 0 and 10, traps at 20 and 11, then 1
        DecoderForge x = ways(0, 0x40A, 10, 0x40A, 20, 0x600, 11, 0x600, 1, 0x600);
        due("behind the first trap", x.walk(0, 3, 0), 11);
        due("one is kept", x.walk(0, 3, 3), 1);
        due("behind the second", x.walk(0, 4, 0), 1);
        due("none is kept", x.walk(0, 4, 3), 0);
        due("the third halts", x.walk(0, 200, 1), 4);
    }

    @Says("GATE: as a CALL, if FIRST is even, else to the next CELL.")
    static void p31_evenGates() {
        dueWay(ways(4, 0x700), 4, 1, 4, 1, 8, 1, 16);
        dueWay(ways(4, 0x702), 4, 1, 6, 1, 10, 1, 16);
        dueWay(ways(4, 0x7FE), 4, 1, 2, 1, 10, 1, 16);
        dueWay(ways(4, 0x77E), 4, 1, 2, 1, 8 + 126, 1, 16);
        dueWay(ways(4, 0x780), 4, 1, 4, 1, 8 + 128, 1, 16);
        dueWay(ways(31, 0x702), 31, 1, 1, 1, 10, 1, LEAST);
    }

    @Says("GATE: as a CALL, if FIRST is even, else to the next CELL.")
    static void p31_oddGates() {
        dueWay(ways(4, 0x701), 4, 1, 5, 1, 9, 0, 16);
        dueWay(ways(4, 0x703), 4, 1, 5, 1, 11, 0, 16);
        dueWay(ways(4, 0x7FF), 4, 1, 5, 1, 9, 0, 16);
        dueWay(ways(4, 0x77F), 4, 1, 5, 1, 8 + 127, 0, 16);
        dueWay(ways(4, 0x781), 4, 1, 5, 1, 8 + 127, 0, 16);
        dueWay(ways(31, 0x701), 31, 1, 0, 1, 9, 0, LEAST);
    }

    @Says("GATE: as a CALL, if FIRST is even, else to the next CELL.")
    static void p31_gatesKeepFourAtMost() {
        due("returns", ways(4, 0x700).walk(4, 5, 3), 4);
        // a call ahead, gates of 0 at its target: the call's return is lost behind the fourth gate
        DecoderForge x = ways(0, 0x402, 2, 0x700);
        due("returns of both", x.walk(0, 3, 3), 3);
        due("four of them", x.walk(0, 6, 3), 4);
    }

    @Says("(NONE, MIXED: HALT)")
    static void p31_noneAndMixedHalt() {
        dueWay(ways(3, 0xD00), 3, 200, 3, 0, 0, 0, 0);
        dueWay(ways(), 31, 200, 31, 0, 0, 0, 0);
        DecoderForge x = with("pa:0...........;pb:.0..........");
        dueWay(x, 3, 200, 3, 0, 0, 0, 0);
        x.put(3, 0x400);
        dueWay(x, 3, 200, 4, 1, 1, 0, 8);
    }

    @Says("what 0 the CELL then (the one in which it HALTED)")
    static void p31_whereItHalted() {
        DecoderForge x = ways(30, 0x100, 31, 0x300, 0, 0x500);
        dueWay(x, 30, 200, 1, 3, 2 + 3 + 5, 0, 3 << 30 | 1);
        dueWay(x, 30, 3, 1, 3, 10, 0, 3 << 30 | 1);
        dueWay(x, 30, 4, 1, 3, 10, 0, 3 << 30 | 1);
    }

    @Says("2 COSTS of all WORDS whose STEPS were gone, together")
    static void p31_theDearestWay() {
        due("200 gates of -128", ways(0, 0x780).walk(0, 200, 2), 200 * 136);
        DecoderForge x = with("ga:wwwwwwwwxyzW");
        x.put(0, 0xE00);
        due("gates of 224 with 5 fields", x.walk(0, 200, 2), 200 * (2 * (1 + 4 + 1 + 2) + 224));
    }

    @Says("no RETURNS kept, in thought")
    static void p31_inThought() {
        DecoderForge x = ways(0, 0x405, 5, 0x100, 6, 0x600, 1, 0x600);
        int deeds = x.count(3);
        due("ahead", x.walk(0, 200, 1), 3);
        due("again", x.walk(0, 200, 1), 3);
        due("behind a call", x.walk(0, 1, 3), 1);
        due("a trap has no return of the walk before", x.walk(6, 1, 1), 0);
        due("MET", x.count(4), 0);
        due("TAKEN BACK", x.count(3), deeds);
        asks(5, y -> y.walk(0, 200, 0));
    }

    // ---- 32: halts

    @Says("BAD.")
    static void p32_badCell() {
        refused(BAD, x -> x.halts(-1), x -> x.halts(32), x -> x.halts(LEAST), x -> x.halts(MOST));
    }

    @Says("Behind how many STEPS (0 to 200) from a CELL on it HALTS; NONE.")
    static void p32_behindNoStep() {
        due("NONE", ways().halts(31), 0);
        due("a trap", ways(0, 0x600).halts(0), 0);
        due("MIXED", with(alike(2, 'p', "............")).halts(0), 0);
        due("no forms", new DecoderForge().halts(0), 0);
    }

    /** Halts behind 190 and so many steps: four calls and ten plain cells are gone through 16 times. */
    private static DecoderForge longWay(int ahead) {
        DecoderForge x = ways();
        for (int i = 0; i < ahead + 14; i++) {
            x.put(i, i >= ahead && i < ahead + 4 ? 0x401 : 0x100);
        }
        x.put(ahead + 14, 0x600);
        return x;
    }

    @Says("Behind how many STEPS (0 to 200) from a CELL on it HALTS; NONE.")
    static void p32_behind200Steps() {
        due("190", longWay(0).halts(0), 190);
        due("199", longWay(9).halts(0), 199);
        due("200", longWay(10).halts(0), 200);
        due("200 of 201", longWay(11).halts(1), 200);
    }

    @Says("Behind how many STEPS (0 to 200) from a CELL on it HALTS; NONE.")
    static void p32_noneBehind201Steps() {
        due("201", longWay(11).halts(0), NONE);
        due("207", longWay(17).halts(0), NONE);
        due("the walk of 200", longWay(11).walk(0, 200, 1), 200);
    }

    @Says("Behind how many STEPS (0 to 200) from a CELL on it HALTS; NONE.")
    static void p32_noneForEver() {
        due("a jump of 0", ways(31, 0x200).halts(31), NONE);
        due("a ring", with("pa:............").halts(0), NONE);
        due("calls of itself", ways(4, 0x400).halts(4), NONE);
    }

    // ---- 33: run

    @Says("BAD.")
    static void p33_badCell() {
        refused(BAD, x -> x.run(-1, 1), x -> x.run(32, 1), x -> x.run(LEAST, 1), x -> x.run(MOST, 1));
    }

    @Says("BAD.")
    static void p33_badN() {
        refused(BAD, x -> x.run(0, 0), x -> x.run(0, -1), x -> x.run(0, 201), x -> x.run(0, LEAST), x -> x.run(0, MOST));
    }

    @Says("n STEPS (1 to 200) are gone in deed from a CELL on")
    static void p33_oneStepAnd200() {
        DecoderForge x = ways(0, 0x101, 1, 0x102, 2, 0x103);
        due("one", x.run(0, 1), 1);
        due("met(0x102)", x.met(0x102), 0);
        due("200", x.run(0, 200), 3);
        DecoderForge y = longWay(10);
        y.put(0, 0x10F);
        due("all of a long way", y.run(0, 200), 4);
    }

    /** Subroutines of three calls each, one in the other: 199 steps lead to cell 16. */
    private static DecoderForge nested() {
        DecoderForge x = ways();
        for (int i = 0; i < 13; i++) x.put(i, 0x100);
        for (int i = 13; i < 16; i++) x.put(i, 0x400 + 18 - i);
        x.put(16, 0x10A);
        x.put(17, 0x10B);
        for (int i = 18; i < 21; i++) x.put(i, 0x400 + 22 - i);
        x.put(21, 0x600);
        for (int i = 22; i < 25; i++) x.put(i, 0x400 + 26 - i);
        x.put(25, 0x600);
        for (int i = 26; i < 30; i++) x.put(i, 0x100);
        x.put(30, 0x600);
        return x;
    }

    @Says("n STEPS (1 to 200) are gone in deed from a CELL on")
    static void p33_the200thAndThe201st() {
        DecoderForge x = nested();
        due("199 steps lead there", x.walk(0, 199, 0), 16);
        x.run(0, 199);
        due("behind 199", x.met(0x10A), 0);
        x.run(0, 200);
        due("the 200th", x.met(0x10A), 1);
        due("a 201st", x.met(0x10B), 0);
        x.run(1, 200);
        due("from the next cell on", x.met(0x10B), 1);
    }

    @Says("how many WORDS are MET then")
    static void p33_haltsAtOnce() {
        DecoderForge x = ways(5, 0x600);
        due("NONE", x.run(0, 1), 0);
        due("a trap", x.run(5, 200), 0);
        due("MET", x.count(4), 0);
    }

    @Says("n STEPS (1 to 200) are gone in deed from a CELL on, no RETURNS kept")
    static void p33_noReturnsOfAnotherRun() {
        DecoderForge x = ways(0, 0x405, 5, 0x600);
        due("a call", x.run(0, 1), 1);
        due("a trap halts", x.run(5, 1), 1);
        due("met(0x600)", x.met(0x600), 0);
        due("both in one run", x.run(0, 2), 2);
    }

    @Says("(32 WORDS are kept at most; one more forgets the earliest met)")
    static void p33_32AreMetAtMost() {
        DecoderForge x = with("pa:....wwwwwwww");
        for (int i = 0; i < 32; i++) x.put(i, 100 + i);
        due("31", x.run(0, 31), 31);
        due("32", x.run(31, 1), 32);
        due("all again", x.run(0, 200), 32);
        x.put(0, 900);
        due("a 33rd", x.run(0, 1), 32);
        due("count(4)", x.count(4), 32);
    }

    // ---- 34: met

    @Says("BAD.")
    static void p34_badWord() {
        refused(BAD, x -> x.met(-1), x -> x.met(4096), x -> x.met(LEAST), x -> x.met(MOST));
    }

    @Says("Whether a WORD is MET (1, 0).")
    static void p34_firstAndLastWord() {
        DecoderForge x = with("pa:............");
        due("met(0)", x.met(0), 0);
        due("met(4095)", x.met(4095), 0);
        x.put(1, 4095);
        x.run(0, 2);
        due("met(0)", x.met(0), 1);
        due("met(4095)", x.met(4095), 1);
        due("met(1)", x.met(1), 0);
    }

    @Says("the set of WORDS that were in CELLS as a STEP was gone in deed")
    static void p34_whereItHaltedIsNotMet() {
        DecoderForge x = ways(0, 0x100, 1, 0xD00, 2, 0x600);
        x.run(0, 200);
        x.run(2, 200);
        due("the plain one", x.met(0x100), 1);
        due("NONE", x.met(0xD00), 0);
        due("a trap without a return", x.met(0x600), 0);
    }

    @Says("the set of WORDS that were in CELLS as a STEP was gone in deed")
    static void p34_staysMetWhenTheCellChanges() {
        DecoderForge x = ways(0, 0x100);
        x.run(0, 1);
        x.put(0, 0x101);
        due("as it was", x.met(0x100), 1);
        due("as it is", x.met(0x101), 0);
    }

    @Says("(32 WORDS are kept at most; one more forgets the earliest met)")
    static void p34_oneMoreForgetsTheEarliest() {
        DecoderForge x = with("pa:....wwwwwwww");
        for (int i = 0; i < 32; i++) x.put(i, 100 + i);
        x.run(0, 32);
        due("met(100)", x.met(100), 1);
        x.put(9, 900);
        x.run(9, 1);
        due("met(100)", x.met(100), 0);
        due("met(101)", x.met(101), 1);
        due("met(900)", x.met(900), 1);
    }

    // ---- 35: order

    @Says("The i-th of WORDS MET, by when they first were (the earliest is 0; one forgotten and met again comes last); NONE.")
    static void p35_noneBelow0OrBehind() {
        asks(NONE, x -> x.order(-1), x -> x.order(LEAST), x -> x.order(MOST), x -> x.order(32), x -> x.order(7));
        asks(0x131, x -> x.order(0));
        asks(0x10A, x -> x.order(6));
        due("none MET", new DecoderForge().order(0), NONE);
    }

    @Says("by when they first were")
    static void p35_metAgainKeepsItsPlace() {
        DecoderForge x = ways(0, 0x101, 1, 0x102, 2, 0x101, 3, 0x103);
        x.run(0, 200);
        x.run(1, 1);
        int[] order = {0x101, 0x102, 0x103, NONE};
        for (int i = 0; i < 4; i++) due("order(" + i + ")", x.order(i), order[i]);
    }

    @Says("one forgotten and met again comes last")
    static void p35_forgottenAndMetAgain() {
        DecoderForge x = with("pa:....wwwwwwww");
        for (int i = 0; i < 32; i++) x.put(i, 100 + i);
        x.run(0, 32);
        x.put(0, 900);
        x.run(0, 1);
        due("the earliest then", x.order(0), 101);
        due("the latest then", x.order(31), 900);
        x.put(0, 100);
        x.run(0, 1);
        due("met again", x.order(31), 100);
        due("ahead of it", x.order(30), 900);
        due("the earliest then", x.order(0), 102);
        due("order(32)", x.order(32), NONE);
    }

    @Says("one forgotten and met again comes last")
    static void p35_33WordsRoundAndRound() {
        DecoderForge x = with("pa:....wwwwwwww");
        for (int i = 0; i < 32; i++) x.put(i, 100 + i);
        x.run(0, 32);
        x.put(31, 200);
        due("33 in all", x.run(31, 200), 32);
        // 200 forgets 100, which is met next and forgets 101, and so on: 131 alone isn't met again
        due("131 is forgotten", x.met(131), 0);
        due("200 is met", x.met(200), 1);
        due("100 is met", x.met(100), 1);
    }

    // ---- 36: costs

    @Says("BAD.")
    static void p36_badWord() {
        refused(BAD, x -> x.costs(-1), x -> x.costs(4096), x -> x.costs(LEAST), x -> x.costs(MOST));
    }

    @Says("NONE, MIXED: 0.")
    static void p36_noneAndMixedAre0() {
        asks(0, x -> x.costs(0), x -> x.costs(4095), x -> x.costs(0x310), x -> x.costs(0x800));
        due("no forms", new DecoderForge().costs(5), 0);
    }

    /** What words of a kind cost without fields, with one, with all eight. */
    private static void dueCosts(char kind, int none, int one, int eight) {
        due("no field", with(kind + "a:............").costs(4095), none);
        due("one field", with(kind + "a:........wwww").costs(4080), one);
        due("one field of eight bits", with(kind + "a:WWWWWWWW....").costs(15), one);
        due("eight fields", with(kind + "a:wxyzWXYZ....").costs(15), eight);
    }

    @Says("PLAIN: 1 and as many as it has FIELDS.")
    static void p36_plains() {
        dueCosts('p', 1, 2, 9);
    }

    @Says("JUMP: 2 more than a PLAIN.")
    static void p36_jumps() {
        dueCosts('j', 3, 4, 11);
    }

    @Says("LOAD: 3 times a PLAIN.")
    static void p36_loads() {
        dueCosts('l', 3, 6, 27);
    }

    @Says("TRAP: 9.")
    static void p36_traps() {
        dueCosts('t', 9, 9, 9);
    }

    @Says("CALL: twice a JUMP.")
    static void p36_calls() {
        dueCosts('c', 6, 8, 22);
    }

    @Says("STORE: 1 less than a LOAD.")
    static void p36_stores() {
        dueCosts('s', 2, 5, 26);
    }

    @Says("GATE: a CALL, and how far FIRST is from 0.")
    static void p36_gatesOf0() {
        dueCosts('g', 6, 8, 22);
    }

    @Says("GATE: a CALL, and how far FIRST is from 0.")
    static void p36_gatesFarFrom0() {
        DecoderForge x = with("ga:0WWWWWWWW..w;gb:1xxxxxxxx...");
        int call = 2 * (1 + 2 + 2);
        due("0", x.costs(0x001), call);
        due("1", x.costs(0x008), call + 1);
        due("-1", x.costs(0x7F8), call + 1);
        due("127", x.costs(0x3F8), call + 127);
        due("-128", x.costs(0x400), call + 128);
        due("255, one field", x.costs(0xFFF), call - 2 + 255);
    }
}
