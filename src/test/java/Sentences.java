/** Two sets of forms, and what is known of them by reckoning, for the tests of the document's sentences. */
abstract class Sentences extends Bounds {
    /** One form of each kind, and one below three of them; no word is MIXED. */
    static final String CODE = "pnop:000000000000;jbr:01WWWWWW....;lget:0010xxxxyyyy,x#15;cfn:0011ZZZZZZZZ;"
            + "sput:1000ywywywyw,w<y;tret:11110.......;gsel:1001YYYYzzzz,z/3;pany:1...........";
    static final int NOP = 0, BR = 1, GET = 2, FN = 3, PUT = 4, RET = 5, SEL = 6, ANY = 7;

    /** Forms a, b, c, d, e that clash: c is over all others, d is under all, b and e are twins. */
    static final String CROWD = "pa:0.1.........;pb:0..1........;pc:0.11wwww....,w#3;pd:0...........;pe:0..1xxxx....";

    /** Cells 0, 1, 6, 8, 9, 7, 2 are gone through in this order; it halts in cell 5. */
    static final int[][] WAY = {{0, 0x212}, {1, 0x305}, {2, 0x430}, {5, 0x001}, {6, 0x923}, {7, 0xF00}, {8, 0x9D0}, {9, 0xF00}};

    static int bitOf(int word, int bit) {
        return word >> bit & 1;
    }

    static int putsY(int word) {
        return 8 * bitOf(word, 7) + 4 * bitOf(word, 5) + 2 * bitOf(word, 3) + bitOf(word, 1);
    }

    static int putsW(int word) {
        return 8 * bitOf(word, 6) + 4 * bitOf(word, 4) + 2 * bitOf(word, 2) + bitOf(word, 0);
    }

    /** What a word means by CODE, told by where it lies. */
    static int inCode(int word) {
        if (word == 0) return NOP;
        if (word < 0x200) return NONE;
        if (word < 0x300) return word >= 0x2F0 ? NONE : GET;
        if (word < 0x400) return FN;
        if (word < 0x800) return BR;
        if (word < 0x900) return putsW(word) < putsY(word) ? PUT : ANY;
        if (word < 0xA00) return word % 16 % 3 == 0 ? SEL : ANY;
        return word >= 0xF00 && word < 0xF80 ? RET : ANY;
    }

    /** Which forms fit a word by CROWD. */
    static int inCrowd(int word) {
        if (word >= 0x800) return 0;
        boolean nine = bitOf(word, 9) == 1;
        boolean eight = bitOf(word, 8) == 1;
        return 8 + (nine ? 1 : 0) + (eight ? 2 + 16 : 0) + (nine && eight && (word >> 4 & 15) != 3 ? 4 : 0);
    }

    /** What a word means by CROWD. */
    static int meantInCrowd(int word) {
        switch (inCrowd(word)) {
            case 0: return NONE;
            case 8: return 3;
            case 9: return 0;
            case 31: return 2;
            default: return MIXED;
        }
    }

    /** Objects alike for questions that change nothing, a new one before the 512 calls are used up. */
    static final class Asked {
        private final String forms;
        private DecoderForge x;
        private int left = 0;

        Asked(String forms) {
            this.forms = forms;
        }

        DecoderForge x() {
            if (left == 0) {
                x = with(forms);
                left = 400;
            }
            left--;
            return x;
        }
    }

    static DecoderForge onTheWay() {
        DecoderForge x = with(CODE);
        for (int[] pair : WAY) x.put(pair[0], pair[1]);
        return x;
    }
}
