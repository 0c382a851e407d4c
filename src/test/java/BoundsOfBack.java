/** Boundary cases of promises 37 to 41: taking back, the image, what is told. */
final class BoundsOfBack extends Bounds {
    // ---- 37: undo

    @Says("STATE: none.")
    static void p37_stateOfANewObject() {
        refusedOn(DecoderForge::new, STATE, x -> x.undo());
        refusedOn(() -> with(WORLD), STATE, x -> x.undo());
    }

    private static DecoderForge undone(int times) {
        DecoderForge x = world();
        for (int i = 0; i < times; i++) x.undo();
        return x;
    }

    @Says("STATE: none.")
    static void p37_stateBehindAll() {
        refusedOn(() -> undone(16), STATE, x -> x.undo());
        due("the 16th", undone(15).undo(), 0);
    }

    @Says("a TEXT that is taken, and back(), leave none")
    static void p37_stateBehindATextOrBack() {
        DecoderForge x = world();
        x.back();
        due("behind back", x.undo(), STATE);
        x.put(0, 1);
        x.wipe();
        text(x, "pz:............");
        due("behind a text", x.undo(), STATE);
        due("what was put stays", x.cell(0), 1);
    }

    @Says("The latest is TAKEN BACK: how many can still be.")
    static void p37_howManyCanStillBe() {
        DecoderForge x = world();
        for (int left = 15; left >= 0; left--) {
            due("undo()", x.undo(), left);
            due("count(3)", x.count(3), left);
        }
    }

    @Says("16 at most (of more the oldest is lost)")
    static void p37_sixteenAreTheMost() {
        DecoderForge x = new DecoderForge();
        for (int i = 1; i <= 16; i++) {
            x.put(3, i);
            due("count(3)", x.count(3), i);
        }
        for (int i = 15; i >= 0; i--) {
            due("undo()", x.undo(), i);
            due("cell(3)", x.cell(3), i);
        }
    }

    @Says("16 at most (of more the oldest is lost)")
    static void p37_ofSeventeenTheOldestIsLost() {
        DecoderForge x = new DecoderForge();
        for (int i = 1; i <= 17; i++) x.put(3, i);
        due("count(3)", x.count(3), 16);
        for (int i = 15; i >= 0; i--) x.undo();
        due("cell(3)", x.cell(3), 1);
        due("undo()", x.undo(), STATE);
        for (int i = 1; i <= 40; i++) x.put(4, i);
        for (int i = 15; i >= 0; i--) due("undo() of 40", x.undo(), i);
        due("cell(4)", x.cell(4), 24);
    }

    @Says("each that wasn't refused, can be TAKEN BACK, the latest first")
    static void p37_refusedOnesCantBe() {
        DecoderForge x = world();
        x.undo();
        due("put", x.put(32, 0), BAD);
        due("hold", x.hold(0, 256), BAD);
        due("copy", x.copy(0, 31, 2), BAD);
        due("run", x.run(0, 0), BAD);
        due("count(3)", x.count(3), 15);
    }

    @Says("each that wasn't refused, can be TAKEN BACK, the latest first")
    static void p37_whatChangesNothingCanBe() {
        DecoderForge x = new DecoderForge();
        x.put(0, 0);
        x.hold(0, 0);
        x.copy(5, 5, 0);
        x.run(0, 1);
        due("count(3)", x.count(3), 4);
        for (int left = 3; left >= 0; left--) due("undo()", x.undo(), left);
    }

    @Says("What put(), hold(), copy(), run() did")
    static void p37_noOtherCallCanBe() {
        DecoderForge x = world();
        for (int i = 0; i < 10; i++) x.undo();
        x.feed('g', 1);
        x.wipe();
        text(x, "?");
        read(x, "go 1");
        x.write(0x131);
        x.make(0);
        x.walk(0, 9, 0);
        x.image();
        x.means(0);
        x.count(9);
        due("count(3)", x.count(3), 6);
    }

    @Says("What put(), hold(), copy(), run() did")
    static void p37_eachOfTheFour() {
        DecoderForge x = with(WORLD);
        x.put(0, 0x100);
        x.put(1, 0x101);
        x.hold(7, 3);
        x.copy(0, 30, 2);
        x.run(0, 2);
        due("MET", x.count(4), 2);
        due("undo run", x.undo(), 4);
        due("MET", x.count(4), 0);
        due("order(0)", x.order(0), NONE);
        due("cell(31)", x.cell(31), 0x101);
        due("undo copy", x.undo(), 3);
        due("cell(31)", x.cell(31), 0);
        due("cell(30)", x.cell(30), 0);
        due("cell(1)", x.cell(1), 0x101);
        due("undo hold", x.undo(), 2);
        due("it holds", x.hold(7, 0), 0);
        x.undo();
        due("undo put", x.undo(), 1);
        due("cell(1)", x.cell(1), 0);
        due("cell(0)", x.cell(0), 0x100);
        due("undo put", x.undo(), 0);
        due("cell(0)", x.cell(0), 0);
    }

    @Says("The latest is TAKEN BACK: how many can still be.")
    static void p37_whatARunForgotIsMetAgain() {
        DecoderForge x = with("pa:....wwwwwwww");
        for (int i = 0; i < 32; i++) x.put(i, 100 + i);
        x.run(0, 32);
        x.put(0, 900);
        x.run(0, 1);
        due("met(100)", x.met(100), 0);
        due("undo run", x.undo(), 15);
        due("met(100)", x.met(100), 1);
        due("met(900)", x.met(900), 0);
        due("order(0)", x.order(0), 100);
        due("order(31)", x.order(31), 131);
    }

    @Says("The latest is TAKEN BACK: how many can still be.")
    static void p37_leavesTheRest() {
        DecoderForge x = world();
        x.cell(99);
        x.undo();
        due("forms", x.count(0), 9);
        due("tape", x.count(1), 8);
        due("line", x.count(2), 9);
        due("refusals", x.refused(0), 1);
        due("the image", x.back(), 9);
        due("cell(0)", x.cell(0), 0x131);
    }

    @Says("The latest is TAKEN BACK: how many can still be.")
    static void p37_takenBackIsNotADeed() {
        DecoderForge x = new DecoderForge();
        x.put(0, 1);
        x.put(0, 2);
        due("undo()", x.undo(), 1);
        x.put(0, 3);
        due("count(3)", x.count(3), 2);
        due("undo()", x.undo(), 1);
        due("cell(0)", x.cell(0), 1);
        due("undo()", x.undo(), 0);
        due("cell(0)", x.cell(0), 0);
    }

    // ---- 38: image

    @Says("how many FORMS there are")
    static void p38_noFormsAndTwelve() {
        due("none", new DecoderForge().image(), 0);
        due("twelve", with(alike(12, 'p', "............")).image(), 12);
    }

    @Says("All is kept but THE TAPE, the LINE, REFUSALS and what can be TAKEN BACK")
    static void p38_changesNothingThatIsTold() {
        DecoderForge x = with(WORLD);
        x.put(0, 5);
        x.hold(1, 5);
        feed(x, "abc");
        x.write(0x100);
        x.cell(-1);
        due("image()", x.image(), 9);
        due("tape", x.count(1), 3);
        due("line", x.count(2), 7);
        due("TAKEN BACK", x.count(3), 2);
        due("refused(0)", x.refused(0), 1);
        due("undo()", x.undo(), 1);
        due("undo()", x.undo(), 0);
        due("cell(0)", x.cell(0), 0);
    }

    @Says("All is kept but THE TAPE, the LINE, REFUSALS and what can be TAKEN BACK")
    static void p38_aLaterImageTakesItsPlace() {
        DecoderForge x = with(WORLD);
        x.put(0, 1);
        x.image();
        x.put(0, 2);
        x.image();
        x.put(0, 3);
        x.back();
        due("cell(0)", x.cell(0), 2);
    }

    // ---- 39: back

    @Says("STATE: nothing was.")
    static void p39_stateWithoutAnImage() {
        refusedOn(DecoderForge::new, STATE, x -> x.back());
        refusedOn(() -> {
            DecoderForge x = with(WORLD);
            x.put(0, 1);
            x.hold(0, 1);
            return x;
        }, STATE, x -> x.back());
    }

    @Says("All that was kept is so again: how many FORMS there are.")
    static void p39_formsAsTheyWere() {
        DecoderForge x = with(alike(11, 'p', "0..........."));
        x.image();
        due("a 12th", text(x, "jz:1wwwwwwww..0,w#3"), 12);
        due("it is meant", x.means(0x800), 11);
        due("back()", x.back(), 11);
        due("count(0)", x.count(0), 11);
        due("means(0x800)", x.means(0x800), NONE);
        due("named z", x.named(25, NONE, NONE), NONE);
        due("formOf(11, 0)", x.formOf(11, 0), BAD);
        due("many(12)", x.many(12), 2048);
        due("greedy", x.greedy(0x801, 3), 11);
        due("z once more", text(x, "tz:...........1"), 12);
        due("its rules", x.formOf(11, 4), 0);
        due("its fields", x.formOf(11, 3), 0);
        due("its w", x.field(11, 0, 0), NONE);
        due("means(0x801)", x.means(0x801), 11);
    }

    @Says("All that was kept is so again: how many FORMS there are.")
    static void p39_otherFormsInTheirPlace() {
        DecoderForge x = with("pa:0...........");
        x.image();
        text(x, "pb:00..........;pc:1...........");
        due("b is over a", x.means(0), 1);
        due("over(1, 0)", x.over(1, 0), 1);
        due("MIXED", x.many(13), 0);
        due("tests", x.greedy(0xC00, 0), 2);
        x.back();
        due("a alone", x.means(0), 0);
        due("words of a", x.many(0), 2048);
        due("NONE", x.many(12), 2048);
        text(x, "pb:.0..........;pc:wwwwwwww....");
        due("b isn't over a", x.means(0), MIXED);
        due("over(1, 0)", x.over(1, 0), 0);
        due("MIXED", x.many(13), 1024);
        due("CLASHES", x.odd(2), 3);
        due("bit 11 of c isn't fixed", x.leaf(0x800, 0x800), 0b110);
        due("nor on side 0", x.leaf(0x800, 0), 0b111);
        x.back();
        text(x, "pb:............");
        due("bit 10 isn't fixed", x.greedy(0x400, 0), 0);
        due("bit 11 is", x.least(0xC00, 0), 1);
    }

    @Says("All that was kept is so again: how many FORMS there are.")
    static void p39_backToNothing() {
        DecoderForge x = new DecoderForge();
        x.image();
        text(x, WORLD);
        x.put(31, 0x100);
        x.hold(7, -128);
        x.run(31, 1);
        due("back()", x.back(), 0);
        for (int what : new int[] {0, 1, 3, 4}) due("count(" + what + ")", x.count(what), 0);
        due("cell(31)", x.cell(31), 0);
        due("hold(7, 0)", x.hold(7, 0), 0);
        due("means(0x100)", x.means(0x100), NONE);
        due("order(0)", x.order(0), NONE);
    }

    @Says("All that was kept is so again: how many FORMS there are.")
    static void p39_backAgainAndAgain() {
        DecoderForge x = world();
        for (int i = 0; i < 3; i++) {
            due("back()", x.back(), 9);
            due("cell(0)", x.cell(0), 0x131);
            due("cell(20)", x.cell(20), 0);
            due("MET", x.count(4), 4);
            due("order(3)", x.order(3), 0x500);
            due("it holds", x.hold(0, 5), 7);
            x.put(0, i);
            x.put(20, i);
            x.run(20, 1);
        }
    }

    @Says("All that was kept is so again")
    static void p39_leavesWhatIsntKept() {
        DecoderForge x = world();
        x.cell(99);
        x.back();
        due("tape", x.count(1), 8);
        due("line", x.count(2), 9);
        due("written(8)", x.written(8), '8');
        due("refused(0)", x.refused(0), 1);
        due("the tape is as it was", x.read(), 0x15D);
    }

    @Says("a TEXT that is taken, and back(), leave none")
    static void p39_leavesNothingToTakeBack() {
        DecoderForge x = world();
        due("ahead", x.count(3), 16);
        x.back();
        due("behind", x.count(3), 0);
        due("undo()", x.undo(), STATE);
        x.put(0, 1);
        due("one more", x.count(3), 1);
        due("undo()", x.undo(), 0);
        due("cell(0)", x.cell(0), 0x131);
    }

    // ---- 40: count

    @Says("BAD.")
    static void p40_badWhat() {
        refused(BAD, x -> x.count(-1), x -> x.count(5), x -> x.count(LEAST), x -> x.count(MOST));
    }

    @Says("0 FORMS, 1 bytes of THE TAPE, 2 bytes of the LINE, 3 what can be TAKEN BACK, 4 WORDS MET.")
    static void p40_fewestAndMost() {
        for (int what = 0; what < 5; what++) due("of a new object: " + what, new DecoderForge().count(what), 0);
        DecoderForge x = new DecoderForge();
        text(x, alike(11, 'p', "00000000000.") + ";");
        text(x, alike(11, 'p', "00000000000."));
        text(x, "pz:............");
        for (int i = 0; i < 32; i++) x.put(i, 100 + i);
        x.run(0, 32);
        x.write(0);
        feed(x, "a".repeat(200));
        int[] most = {12, 200, 2, 16, 32};
        for (int what = 0; what < 5; what++) due("count(" + what + ")", x.count(what), most[what]);
    }

    @Says("0 FORMS, 1 bytes of THE TAPE, 2 bytes of the LINE, 3 what can be TAKEN BACK, 4 WORDS MET.")
    static void p40_ofTheWorld() {
        int[] due = {9, 8, 9, 16, 7};
        for (int k = 0; k < 5; k++) {
            int what = k;
            asks(due[what], x -> x.count(what));
        }
    }

    // ---- 41: refused

    @Says("BAD (counted, too): another one.")
    static void p41_badIsCountedToo() {
        refused(BAD, x -> x.refused(-1), x -> x.refused(3), x -> x.refused(LEAST), x -> x.refused(MOST));
        DecoderForge x = new DecoderForge();
        due("refused(3)", x.refused(3), BAD);
        due("refused(0)", x.refused(0), 1);
        due("refused(0) isn't one", x.refused(0), 1);
        due("refused(-1)", x.refused(-1), BAD);
        due("refused(0)", x.refused(0), 2);
    }

    @Says("(0: BAD, 1: FULL, 2: STATE)")
    static void p41_fullAndStateAreApart() {
        DecoderForge x = feed(new DecoderForge(), "a".repeat(200));
        x.feed(1, 1);
        x.feed(1, 8);
        x.undo();
        x.back();
        x.undo();
        x.means(4096);
        due("BAD", x.refused(0), 1);
        due("FULL", x.refused(1), 2);
        due("STATE", x.refused(2), 3);
    }

    @Says("REFUSALS are answers below -1000")
    static void p41_otherAnswersAreNoRefusals() {
        DecoderForge x = with(WORLD);
        x.text();
        x.read();
        read(x, "zzz");
        x.means(0);
        x.means(0x800);
        x.next(0, 4095);
        x.named(25, 25, 25);
        x.clash(99, 0);
        x.covers(-1, -1);
        x.field(0, 7, 0);
        x.written(-1);
        x.order(-1);
        x.halts(0);
        x.greedy(0, 2);
        x.least(0, 1);
        for (int which = 0; which < 3; which++) due("refused(" + which + ")", x.refused(which), 0);
    }

    @Says("REFUSALS are answers below -1000")
    static void p41_setsThatAreBelowAreNoRefusals() {
        DecoderForge x = with("pa:............");
        x.put(0, 1);
        due("holders", x.holders(0), -1);
        due("walk", x.walk(31, 1, 4), LEAST);
        DecoderForge y = with("pa:1...........");
        y.put(31, 0x800);
        due("holders of 31", y.holders(0), LEAST);
        for (int which = 0; which < 3; which++) {
            due("refused(" + which + ")", x.refused(which), 0);
            due("refused(" + which + ") of 31", y.refused(which), 0);
        }
    }
}
